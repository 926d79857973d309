theorem qk_fitI (x : Int32) : qk_fit .int (.int x) = true := by simp [qk_fit, narrow, fits]
theorem qk_fitJ (x : Int64) : qk_fit .long (.long x) = true := by simp [qk_fit, narrow, fits]
theorem qk_fitL (C : String) (a : Nat) : qk_fit (.object C) (.ref a) = true := by simp [qk_fit, narrow, fits]
theorem qk_fitA (t : FieldType) (a : Nat) : qk_fit (.array t) (.ref a) = true := by simp [qk_fit, narrow, fits]
theorem lw_i0 : ∀ w, w ∈ k2_sels lw_privs → w ∈ lw_tbl := fun _ h => List.mem_append_left _ h
theorem lw_i1 : ∀ w, w ∈ tables_1_1 → w ∈ lw_tbl := fun _ h => List.mem_append_right _ (List.mem_append_left _ h)
theorem lw_i2 : ∀ w, w ∈ tables_1_2 → w ∈ lw_tbl := fun _ h => List.mem_append_right _ (List.mem_append_right _ (List.mem_append_left _ h))
theorem lw_i3 : ∀ w, w ∈ tables_1_3 → w ∈ lw_tbl := fun _ h => List.mem_append_right _ (List.mem_append_right _ (List.mem_append_right _ (List.mem_append_left _ h)))
theorem lw_i4 : ∀ w, w ∈ tables_1_4 → w ∈ lw_tbl := fun _ h => List.mem_append_right _ (List.mem_append_right _ (List.mem_append_right _ (List.mem_append_right _ (List.mem_append_left _ h))))
theorem lw_i5 : ∀ w, w ∈ tables_1_5 → w ∈ lw_tbl := fun _ h => List.mem_append_right _ (List.mem_append_right _ (List.mem_append_right _ (List.mem_append_right _ (List.mem_append_right _ h))))
/-- what the world holds: an object of class ci; arrays of int, byte, boolean, long, references -/
def wo (w : qk_W) (a ci : Nat) (fs : List Value) : Prop := 16 ≤ a ∧ w a = some (.inr (ci, fs))
def wi (w : qk_W) (a n : Nat) (f : Nat → Int32) : Prop := w a = some (.inl (.int, n, .inl f))
def wb (w : qk_W) (a n : Nat) (f : Nat → Int32) : Prop := 16 ≤ a ∧ w a = some (.inl (.byte, n, .inl f))
def wz (w : qk_W) (a n : Nat) (f : Nat → Int32) : Prop := 16 ≤ a ∧ w a = some (.inl (.boolean, n, .inl f))
def wl (w : qk_W) (a n : Nat) (f : Nat → Int64) : Prop := 16 ≤ a ∧ w a = some (.inl (.long, n, .inr (.inl f)))
def wr (C : String) (w : qk_W) (a n : Nat) (f : Nat → Option Nat) : Prop := 16 ≤ a ∧ w a = some (.inl (.object C, n, .inr (.inr (.inr (.inr f)))))
theorem ob_inst : Cond.instanceMethod Lib.objectInit ∈ lw_tbl := (lw_i1 _ (List.mem_of_getElem? (i := 28) rfl))
theorem ob_code : Cond.code Lib.objectInit ⟨#[0xb1]⟩ 1 none ∈ lw_tbl := (lw_i1 _ (List.mem_of_getElem? (i := 29) rfl))
theorem ob_nat : Cond.native arraycopyName ∈ lw_tbl := (lw_i2 _ (List.mem_of_getElem? (i := 79) rfl))
theorem ob_stat : Cond.static arraycopyName ∈ lw_tbl := (lw_i2 _ (List.mem_of_getElem? (i := 78) rfl))
theorem ob_sys : Cond.initialized "java/lang/System" ∈ lw_tbl := (lw_i1 _ (List.mem_of_getElem? (i := 19) rfl))
def m_Q_init : qk_M := (⟨"QuakeLink", "<init>", "()V"⟩, prog_1_method_1_code, 1, (Option.none : Option Jvm.ClassFile.FieldType), [])
theorem ic_Q : ("QuakeLink" ≠ "java/lang/invoke/MethodHandle" ∧ "QuakeLink" ≠ "java/lang/invoke/VarHandle") ∧ Cond.initialized "QuakeLink" ∈ lw_tbl := ⟨⟨by decide +kernel, by decide +kernel⟩, (lw_i1 _ (List.mem_of_getElem? (i := 1) rfl))⟩
theorem i_Q_init : qk_isM m_Q_init := ⟨Or.inl ⟨rfl, (lw_i1 _ (List.mem_of_getElem? (i := 26) rfl))⟩, rfl, ic_Q.1, ic_Q.2, Nat.le_of_ble_eq_true rfl⟩
theorem ii_Q_init : m_Q_init.1.name = "<init>" → m_Q_init.2.2.2.2 = [] ∧ Cond.code m_Q_init.1 m_Q_init.2.1 m_Q_init.2.2.1 none ∈ lw_tbl := fun _ => ⟨rfl, (lw_i1 _ (List.mem_of_getElem? (i := 26) rfl))⟩
def m_St_init : qk_M := (⟨"QuakeLink$Station", "<init>", "()V"⟩, prog_10_method_1_code, 2, (Option.none : Option Jvm.ClassFile.FieldType), [])
theorem ic_St : ("QuakeLink$Station" ≠ "java/lang/invoke/MethodHandle" ∧ "QuakeLink$Station" ≠ "java/lang/invoke/VarHandle") ∧ Cond.initialized "QuakeLink$Station" ∈ lw_tbl := ⟨⟨by decide +kernel, by decide +kernel⟩, (lw_i1 _ (List.mem_of_getElem? (i := 2) rfl))⟩
theorem i_St_init : qk_isM m_St_init := ⟨Or.inl ⟨rfl, (lw_i1 _ (List.mem_of_getElem? (i := 34) rfl))⟩, rfl, ic_St.1, ic_St.2, Nat.le_of_ble_eq_true rfl⟩
theorem ii_St_init : m_St_init.1.name = "<init>" → m_St_init.2.2.2.2 = [] ∧ Cond.code m_St_init.1 m_St_init.2.1 m_St_init.2.2.1 none ∈ lw_tbl := fun _ => ⟨rfl, (lw_i1 _ (List.mem_of_getElem? (i := 34) rfl))⟩
def m_Ch_init : qk_M := (⟨"QuakeLink$Channel", "<init>", "(I)V"⟩, prog_4_method_1_code, 2, (Option.none : Option Jvm.ClassFile.FieldType), [])
theorem ic_Ch : ("QuakeLink$Channel" ≠ "java/lang/invoke/MethodHandle" ∧ "QuakeLink$Channel" ≠ "java/lang/invoke/VarHandle") ∧ Cond.initialized "QuakeLink$Channel" ∈ lw_tbl := ⟨⟨by decide +kernel, by decide +kernel⟩, (lw_i1 _ (List.mem_of_getElem? (i := 3) rfl))⟩
theorem i_Ch_init : qk_isM m_Ch_init := ⟨Or.inl ⟨rfl, (lw_i1 _ (List.mem_of_getElem? (i := 41) rfl))⟩, rfl, ic_Ch.1, ic_Ch.2, Nat.le_of_ble_eq_true rfl⟩
theorem ii_Ch_init : m_Ch_init.1.name = "<init>" → m_Ch_init.2.2.2.2 = [] ∧ Cond.code m_Ch_init.1 m_Ch_init.2.1 m_Ch_init.2.2.1 none ∈ lw_tbl := fun _ => ⟨rfl, (lw_i1 _ (List.mem_of_getElem? (i := 41) rfl))⟩
def m_Ns_init : qk_M := (⟨"QuakeLink$NumberSet", "<init>", "()V"⟩, prog_7_method_1_code, 1, (Option.none : Option Jvm.ClassFile.FieldType), [])
theorem ic_Ns : ("QuakeLink$NumberSet" ≠ "java/lang/invoke/MethodHandle" ∧ "QuakeLink$NumberSet" ≠ "java/lang/invoke/VarHandle") ∧ Cond.initialized "QuakeLink$NumberSet" ∈ lw_tbl := ⟨⟨by decide +kernel, by decide +kernel⟩, (lw_i1 _ (List.mem_of_getElem? (i := 4) rfl))⟩
theorem i_Ns_init : qk_isM m_Ns_init := ⟨Or.inl ⟨rfl, (lw_i1 _ (List.mem_of_getElem? (i := 47) rfl))⟩, rfl, ic_Ns.1, ic_Ns.2, Nat.le_of_ble_eq_true rfl⟩
theorem ii_Ns_init : m_Ns_init.1.name = "<init>" → m_Ns_init.2.2.2.2 = [] ∧ Cond.code m_Ns_init.1 m_Ns_init.2.1 m_Ns_init.2.2.1 none ∈ lw_tbl := fun _ => ⟨rfl, (lw_i1 _ (List.mem_of_getElem? (i := 47) rfl))⟩
def m_Ai_init : qk_M := (⟨"QuakeLink$Air", "<init>", "()V"⟩, prog_2_method_1_code, 1, (Option.none : Option Jvm.ClassFile.FieldType), [])
theorem ic_Ai : ("QuakeLink$Air" ≠ "java/lang/invoke/MethodHandle" ∧ "QuakeLink$Air" ≠ "java/lang/invoke/VarHandle") ∧ Cond.initialized "QuakeLink$Air" ∈ lw_tbl := ⟨⟨by decide +kernel, by decide +kernel⟩, (lw_i1 _ (List.mem_of_getElem? (i := 5) rfl))⟩
theorem i_Ai_init : qk_isM m_Ai_init := ⟨Or.inl ⟨rfl, (lw_i1 _ (List.mem_of_getElem? (i := 108) rfl))⟩, rfl, ic_Ai.1, ic_Ai.2, Nat.le_of_ble_eq_true rfl⟩
theorem ii_Ai_init : m_Ai_init.1.name = "<init>" → m_Ai_init.2.2.2.2 = [] ∧ Cond.code m_Ai_init.1 m_Ai_init.2.1 m_Ai_init.2.2.1 none ∈ lw_tbl := fun _ => ⟨rfl, (lw_i1 _ (List.mem_of_getElem? (i := 108) rfl))⟩
def m_Ce_init : qk_M := (⟨"QuakeLink$Centre", "<init>", "()V"⟩, prog_3_method_1_code, 2, (Option.none : Option Jvm.ClassFile.FieldType), [])
theorem ic_Ce : ("QuakeLink$Centre" ≠ "java/lang/invoke/MethodHandle" ∧ "QuakeLink$Centre" ≠ "java/lang/invoke/VarHandle") ∧ Cond.initialized "QuakeLink$Centre" ∈ lw_tbl := ⟨⟨by decide +kernel, by decide +kernel⟩, (lw_i1 _ (List.mem_of_getElem? (i := 6) rfl))⟩
theorem i_Ce_init : qk_isM m_Ce_init := ⟨Or.inl ⟨rfl, (lw_i1 _ (List.mem_of_getElem? (i := 124) rfl))⟩, rfl, ic_Ce.1, ic_Ce.2, Nat.le_of_ble_eq_true rfl⟩
theorem ii_Ce_init : m_Ce_init.1.name = "<init>" → m_Ce_init.2.2.2.2 = [] ∧ Cond.code m_Ce_init.1 m_Ce_init.2.1 m_Ce_init.2.2.1 none ∈ lw_tbl := fun _ => ⟨rfl, (lw_i1 _ (List.mem_of_getElem? (i := 124) rfl))⟩
def m_Tr_init : qk_M := (⟨"QuakeLink$Track", "<init>", "()V"⟩, prog_11_method_1_code, 1, (Option.none : Option Jvm.ClassFile.FieldType), [])
theorem ic_Tr : ("QuakeLink$Track" ≠ "java/lang/invoke/MethodHandle" ∧ "QuakeLink$Track" ≠ "java/lang/invoke/VarHandle") ∧ Cond.initialized "QuakeLink$Track" ∈ lw_tbl := ⟨⟨by decide +kernel, by decide +kernel⟩, (lw_i1 _ (List.mem_of_getElem? (i := 7) rfl))⟩
theorem i_Tr_init : qk_isM m_Tr_init := ⟨Or.inl ⟨rfl, (lw_i1 _ (List.mem_of_getElem? (i := 131) rfl))⟩, rfl, ic_Tr.1, ic_Tr.2, Nat.le_of_ble_eq_true rfl⟩
theorem ii_Tr_init : m_Tr_init.1.name = "<init>" → m_Tr_init.2.2.2.2 = [] ∧ Cond.code m_Tr_init.1 m_Tr_init.2.1 m_Tr_init.2.2.1 none ∈ lw_tbl := fun _ => ⟨rfl, (lw_i1 _ (List.mem_of_getElem? (i := 131) rfl))⟩
def m_Q_turn : qk_M := (⟨"QuakeLink", "turn", "()I"⟩, prog_1_method_6_code, 1, (Option.some Jvm.ClassFile.FieldType.int), [])
theorem i_Q_turn : qk_isM m_Q_turn := ⟨Or.inl ⟨rfl, (lw_i1 _ (List.mem_of_getElem? (i := 175) rfl))⟩, rfl, ic_Q.1, ic_Q.2, Nat.le_of_ble_eq_true rfl⟩
def m_St_sendNext : qk_M := (⟨"QuakeLink$Station", "sendNext", "(LQuakeLink$Air;)Z"⟩, prog_10_method_5_code, 4, (Option.some Jvm.ClassFile.FieldType.boolean), [])
theorem i_St_sendNext : qk_isM m_St_sendNext := ⟨Or.inl ⟨rfl, (lw_i1 _ (List.mem_of_getElem? (i := 179) rfl))⟩, rfl, ic_St.1, ic_St.2, Nat.le_of_ble_eq_true rfl⟩
def m_St_firstThatWaits : qk_M := (⟨"QuakeLink$Station", "firstThatWaits", "()LQuakeLink$Channel;"⟩, prog_10_method_8_code, 5, (Option.some (Jvm.ClassFile.FieldType.object "QuakeLink$Channel")), [])
theorem i_St_firstThatWaits : qk_isM m_St_firstThatWaits := ⟨Or.inl ⟨rfl, (lw_i1 _ (List.mem_of_getElem? (i := 183) rfl))⟩, rfl, ic_St.1, ic_St.2, Nat.le_of_ble_eq_true rfl⟩
def m_Ch_howManyWait : qk_M := (⟨"QuakeLink$Channel", "howManyWait", "()I"⟩, prog_4_method_8_code, 1, (Option.some Jvm.ClassFile.FieldType.int), [])
theorem i_Ch_howManyWait : qk_isM m_Ch_howManyWait := ⟨Or.inl ⟨rfl, (lw_i1 _ (List.mem_of_getElem? (i := 187) rfl))⟩, rfl, ic_Ch.1, ic_Ch.2, Nat.le_of_ble_eq_true rfl⟩
def m_Ch_firstThatWaits : qk_M := (⟨"QuakeLink$Channel", "firstThatWaits", "()I"⟩, prog_4_method_14_code, 1, (Option.some Jvm.ClassFile.FieldType.int), [])
theorem i_Ch_firstThatWaits : qk_isM m_Ch_firstThatWaits := ⟨Or.inl ⟨rfl, (lw_i1 _ (List.mem_of_getElem? (i := 191) rfl))⟩, rfl, ic_Ch.1, ic_Ch.2, Nat.le_of_ble_eq_true rfl⟩
def m_Ch_firstOfRing : qk_M := (⟨"QuakeLink$Channel", "firstOfRing", "()I"⟩, prog_4_method_13_code, 1, (Option.some Jvm.ClassFile.FieldType.int), [])
theorem i_Ch_firstOfRing : qk_isM m_Ch_firstOfRing := ⟨Or.inl ⟨rfl, (lw_i1 _ (List.mem_of_getElem? (i := 195) rfl))⟩, rfl, ic_Ch.1, ic_Ch.2, Nat.le_of_ble_eq_true rfl⟩
def m_Ch_inRing : qk_M := (⟨"QuakeLink$Channel", "inRing", "()I"⟩, prog_4_method_3_code, 1, (Option.some Jvm.ClassFile.FieldType.int), [])
theorem i_Ch_inRing : qk_isM m_Ch_inRing := ⟨Or.inl ⟨rfl, (lw_i1 _ (List.mem_of_getElem? (i := 199) rfl))⟩, rfl, ic_Ch.1, ic_Ch.2, Nat.le_of_ble_eq_true rfl⟩
def m_Math_min_III : qk_M := (⟨"java/lang/Math", "min", "(II)I"⟩, prog_19_method_69_code, 2, (Option.some Jvm.ClassFile.FieldType.int), [])
theorem ic_Math : ("java/lang/Math" ≠ "java/lang/invoke/MethodHandle" ∧ "java/lang/Math" ≠ "java/lang/invoke/VarHandle") ∧ Cond.initialized "java/lang/Math" ∈ lw_tbl := ⟨⟨by decide +kernel, by decide +kernel⟩, (lw_i1 _ (List.mem_of_getElem? (i := 14) rfl))⟩
theorem i_Math_min_III : qk_isM m_Math_min_III := ⟨Or.inl ⟨rfl, (lw_i1 _ (List.mem_of_getElem? (i := 202) rfl))⟩, by decide +kernel, ic_Math.1, ic_Math.2, Nat.le_of_ble_eq_true rfl⟩
def m_Math_max : qk_M := (⟨"java/lang/Math", "max", "(II)I"⟩, prog_19_method_65_code, 2, (Option.some Jvm.ClassFile.FieldType.int), [])
theorem i_Math_max : qk_isM m_Math_max := ⟨Or.inl ⟨rfl, (lw_i1 _ (List.mem_of_getElem? (i := 205) rfl))⟩, by decide +kernel, ic_Math.1, ic_Math.2, Nat.le_of_ble_eq_true rfl⟩
def m_Ch_orderOfFirstThatWaits : qk_M := (⟨"QuakeLink$Channel", "orderOfFirstThatWaits", "()I"⟩, prog_4_method_9_code, 1, (Option.some Jvm.ClassFile.FieldType.int), [])
theorem i_Ch_orderOfFirstThatWaits : qk_isM m_Ch_orderOfFirstThatWaits := ⟨Or.inl ⟨rfl, (lw_i1 _ (List.mem_of_getElem? (i := 209) rfl))⟩, rfl, ic_Ch.1, ic_Ch.2, Nat.le_of_ble_eq_true rfl⟩
def m_Ch_packet : qk_M := (⟨"QuakeLink$Channel", "packet", "(I)LQuakeLink$Packet;"⟩, prog_4_method_15_code, 3, (Option.some (Jvm.ClassFile.FieldType.object "QuakeLink$Packet")), [])
theorem i_Ch_packet : qk_isM m_Ch_packet := ⟨Or.inl ⟨rfl, (lw_i1 _ (List.mem_of_getElem? (i := 213) rfl))⟩, rfl, ic_Ch.1, ic_Ch.2, Nat.le_of_ble_eq_true rfl⟩
def m_Math_floorMod : qk_M := (⟨"java/lang/Math", "floorMod", "(II)I"⟩, prog_19_method_50_code, 3, (Option.some Jvm.ClassFile.FieldType.int), [])
theorem i_Math_floorMod : qk_isM m_Math_floorMod := ⟨Or.inl ⟨rfl, (lw_i1 _ (List.mem_of_getElem? (i := 216) rfl))⟩, by decide +kernel, ic_Math.1, ic_Math.2, Nat.le_of_ble_eq_true rfl⟩
def m_Pa_init : qk_M := (⟨"QuakeLink$Packet", "<init>", "()V"⟩, prog_8_method_1_code, 1, (Option.none : Option Jvm.ClassFile.FieldType), [])
theorem ic_Pa : ("QuakeLink$Packet" ≠ "java/lang/invoke/MethodHandle" ∧ "QuakeLink$Packet" ≠ "java/lang/invoke/VarHandle") ∧ Cond.initialized "QuakeLink$Packet" ∈ lw_tbl := ⟨⟨by decide +kernel, by decide +kernel⟩, (lw_i1 _ (List.mem_of_getElem? (i := 15) rfl))⟩
theorem i_Pa_init : qk_isM m_Pa_init := ⟨Or.inl ⟨rfl, (lw_i1 _ (List.mem_of_getElem? (i := 220) rfl))⟩, rfl, ic_Pa.1, ic_Pa.2, Nat.le_of_ble_eq_true rfl⟩
theorem ii_Pa_init : m_Pa_init.1.name = "<init>" → m_Pa_init.2.2.2.2 = [] ∧ Cond.code m_Pa_init.1 m_Pa_init.2.1 m_Pa_init.2.2.1 none ∈ lw_tbl := fun _ => ⟨rfl, (lw_i1 _ (List.mem_of_getElem? (i := 220) rfl))⟩
def m_Me_init : qk_M := (⟨"QuakeLink$Message", "<init>", "()V"⟩, prog_6_method_1_code, 1, (Option.none : Option Jvm.ClassFile.FieldType), [])
theorem ic_Me : ("QuakeLink$Message" ≠ "java/lang/invoke/MethodHandle" ∧ "QuakeLink$Message" ≠ "java/lang/invoke/VarHandle") ∧ Cond.initialized "QuakeLink$Message" ∈ lw_tbl := ⟨⟨by decide +kernel, by decide +kernel⟩, (lw_i1 _ (List.mem_of_getElem? (i := 16) rfl))⟩
theorem i_Me_init : qk_isM m_Me_init := ⟨Or.inl ⟨rfl, (lw_i1 _ (List.mem_of_getElem? (i := 226) rfl))⟩, rfl, ic_Me.1, ic_Me.2, Nat.le_of_ble_eq_true rfl⟩
theorem ii_Me_init : m_Me_init.1.name = "<init>" → m_Me_init.2.2.2.2 = [] ∧ Cond.code m_Me_init.1 m_Me_init.2.1 m_Me_init.2.2.1 none ∈ lw_tbl := fun _ => ⟨rfl, (lw_i1 _ (List.mem_of_getElem? (i := 226) rfl))⟩
def m_St_leastAsked : qk_M := (⟨"QuakeLink$Station", "leastAsked", "()LQuakeLink$Channel;"⟩, prog_10_method_9_code, 5, (Option.some (Jvm.ClassFile.FieldType.object "QuakeLink$Channel")), [])
theorem i_St_leastAsked : qk_isM m_St_leastAsked := ⟨Or.inl ⟨rfl, (lw_i2 _ (List.mem_of_getElem? (i := 45) rfl))⟩, rfl, ic_St.1, ic_St.2, Nat.le_of_ble_eq_true rfl⟩
def m_Ns_next : qk_M := (⟨"QuakeLink$NumberSet", "next", "(IZ)I"⟩, prog_7_method_5_code, 7, (Option.some Jvm.ClassFile.FieldType.int), [])
theorem i_Ns_next : qk_isM m_Ns_next := ⟨Or.inl ⟨rfl, (lw_i2 _ (List.mem_of_getElem? (i := 50) rfl))⟩, rfl, ic_Ns.1, ic_Ns.2, Nat.le_of_ble_eq_true rfl⟩
def m_Int_bitCount : qk_M := (⟨"java/lang/Integer", "bitCount", "(I)I"⟩, prog_18_method_49_code, 1, (Option.some Jvm.ClassFile.FieldType.int), [])
theorem ic_Int : ("java/lang/Integer" ≠ "java/lang/invoke/MethodHandle" ∧ "java/lang/Integer" ≠ "java/lang/invoke/VarHandle") ∧ Cond.initialized "java/lang/Integer" ∈ lw_tbl := ⟨⟨by decide +kernel, by decide +kernel⟩, (lw_i1 _ (List.mem_of_getElem? (i := 18) rfl))⟩
theorem i_Int_bitCount : qk_isM m_Int_bitCount := ⟨Or.inl ⟨rfl, (lw_i2 _ (List.mem_of_getElem? (i := 54) rfl))⟩, by decide +kernel, ic_Int.1, ic_Int.2, Nat.le_of_ble_eq_true rfl⟩
def m_Ch_sendWaiting : qk_M := (⟨"QuakeLink$Channel", "sendWaiting", "(LQuakeLink$Air;)V"⟩, prog_4_method_10_code, 3, (Option.none : Option Jvm.ClassFile.FieldType), [])
theorem i_Ch_sendWaiting : qk_isM m_Ch_sendWaiting := ⟨Or.inl ⟨rfl, (lw_i2 _ (List.mem_of_getElem? (i := 62) rfl))⟩, rfl, ic_Ch.1, ic_Ch.2, Nat.le_of_ble_eq_true rfl⟩
def m_Ch_send : qk_M := (⟨"QuakeLink$Channel", "send", "(LQuakeLink$Packet;LQuakeLink$Air;)V"⟩, prog_4_method_17_code, 4, (Option.none : Option Jvm.ClassFile.FieldType), [])
theorem i_Ch_send : qk_isM m_Ch_send := ⟨Or.inl ⟨rfl, (lw_i2 _ (List.mem_of_getElem? (i := 66) rfl))⟩, rfl, ic_Ch.1, ic_Ch.2, Nat.le_of_ble_eq_true rfl⟩
def m_Ai_add : qk_M := (⟨"QuakeLink$Air", "add", "(I)LQuakeLink$Message;"⟩, prog_2_method_2_code, 3, (Option.some (Jvm.ClassFile.FieldType.object "QuakeLink$Message")), [])
theorem i_Ai_add : qk_isM m_Ai_add := ⟨Or.inl ⟨rfl, (lw_i2 _ (List.mem_of_getElem? (i := 70) rfl))⟩, rfl, ic_Ai.1, ic_Ai.2, Nat.le_of_ble_eq_true rfl⟩
def m_Me_copy : qk_M := (⟨"QuakeLink$Message", "copy", "(LQuakeLink$Message;)V"⟩, prog_6_method_5_code, 2, (Option.none : Option Jvm.ClassFile.FieldType), [])
theorem i_Me_copy : qk_isM m_Me_copy := ⟨Or.inl ⟨rfl, (lw_i2 _ (List.mem_of_getElem? (i := 76) rfl))⟩, rfl, ic_Me.1, ic_Me.2, Nat.le_of_ble_eq_true rfl⟩
def m_Ch_oldest : qk_M := (⟨"QuakeLink$Channel", "oldest", "()I"⟩, prog_4_method_4_code, 1, (Option.some Jvm.ClassFile.FieldType.int), [])
theorem i_Ch_oldest : qk_isM m_Ch_oldest := ⟨Or.inl ⟨rfl, (lw_i2 _ (List.mem_of_getElem? (i := 83) rfl))⟩, rfl, ic_Ch.1, ic_Ch.2, Nat.le_of_ble_eq_true rfl⟩
def m_Me_put : qk_M := (⟨"QuakeLink$Message", "put", "(III)V"⟩, prog_6_method_2_code, 5, (Option.none : Option Jvm.ClassFile.FieldType), [])
theorem i_Me_put : qk_isM m_Me_put := ⟨Or.inl ⟨rfl, (lw_i2 _ (List.mem_of_getElem? (i := 87) rfl))⟩, rfl, ic_Me.1, ic_Me.2, Nat.le_of_ble_eq_true rfl⟩
def m_Me_seal : qk_M := (⟨"QuakeLink$Message", "seal", "()V"⟩, prog_6_method_6_code, 1, (Option.none : Option Jvm.ClassFile.FieldType), [])
theorem i_Me_seal : qk_isM m_Me_seal := ⟨Or.inl ⟨rfl, (lw_i2 _ (List.mem_of_getElem? (i := 91) rfl))⟩, rfl, ic_Me.1, ic_Me.2, Nat.le_of_ble_eq_true rfl⟩
def m_Me_check : qk_M := (⟨"QuakeLink$Message", "check", "()I"⟩, prog_6_method_8_code, 3, (Option.some Jvm.ClassFile.FieldType.int), [])
theorem i_Me_check : qk_isM m_Me_check := ⟨Or.inl ⟨rfl, (lw_i2 _ (List.mem_of_getElem? (i := 95) rfl))⟩, rfl, ic_Me.1, ic_Me.2, Nat.le_of_ble_eq_true rfl⟩
def m_Ch_sendAsked : qk_M := (⟨"QuakeLink$Channel", "sendAsked", "(LQuakeLink$Air;)V"⟩, prog_4_method_11_code, 5, (Option.none : Option Jvm.ClassFile.FieldType), [])
theorem i_Ch_sendAsked : qk_isM m_Ch_sendAsked := ⟨Or.inl ⟨rfl, (lw_i2 _ (List.mem_of_getElem? (i := 102) rfl))⟩, rfl, ic_Ch.1, ic_Ch.2, Nat.le_of_ble_eq_true rfl⟩
def m_Ch_sendEmpty : qk_M := (⟨"QuakeLink$Channel", "sendEmpty", "(LQuakeLink$Air;)V"⟩, prog_4_method_18_code, 3, (Option.none : Option Jvm.ClassFile.FieldType), [])
theorem i_Ch_sendEmpty : qk_isM m_Ch_sendEmpty := ⟨Or.inl ⟨rfl, (lw_i2 _ (List.mem_of_getElem? (i := 107) rfl))⟩, rfl, ic_Ch.1, ic_Ch.2, Nat.le_of_ble_eq_true rfl⟩
def m_Ns_exclude : qk_M := (⟨"QuakeLink$NumberSet", "exclude", "(II)V"⟩, prog_7_method_4_code, 7, (Option.none : Option Jvm.ClassFile.FieldType), [])
theorem i_Ns_exclude : qk_isM m_Ns_exclude := ⟨Or.inl ⟨rfl, (lw_i2 _ (List.mem_of_getElem? (i := 111) rfl))⟩, rfl, ic_Ns.1, ic_Ns.2, Nat.le_of_ble_eq_true rfl⟩
def m_Ns_bitsOfWord : qk_M := (⟨"QuakeLink$NumberSet", "bitsOfWord", "(III)I"⟩, prog_7_method_6_code, 5, (Option.some Jvm.ClassFile.FieldType.int), [])
theorem i_Ns_bitsOfWord : qk_isM m_Ns_bitsOfWord := ⟨Or.inl ⟨rfl, (lw_i2 _ (List.mem_of_getElem? (i := 115) rfl))⟩, rfl, ic_Ns.1, ic_Ns.2, Nat.le_of_ble_eq_true rfl⟩
def m_Ch_packetWith : qk_M := (⟨"QuakeLink$Channel", "packetWith", "(I)LQuakeLink$Packet;"⟩, prog_4_method_16_code, 3, (Option.some (Jvm.ClassFile.FieldType.object "QuakeLink$Packet")), [])
theorem i_Ch_packetWith : qk_isM m_Ch_packetWith := ⟨Or.inl ⟨rfl, (lw_i2 _ (List.mem_of_getElem? (i := 119) rfl))⟩, rfl, ic_Ch.1, ic_Ch.2, Nat.le_of_ble_eq_true rfl⟩
def m_Ai_latest : qk_M := (⟨"QuakeLink$Air", "latest", "()I"⟩, prog_2_method_3_code, 1, (Option.some Jvm.ClassFile.FieldType.int), [])
theorem i_Ai_latest : qk_isM m_Ai_latest := ⟨Or.inl ⟨rfl, (lw_i2 _ (List.mem_of_getElem? (i := 123) rfl))⟩, rfl, ic_Ai.1, ic_Ai.2, Nat.le_of_ble_eq_true rfl⟩
def m_Q_ask : qk_M := (⟨"QuakeLink", "ask", "()I"⟩, prog_1_method_7_code, 1, (Option.some Jvm.ClassFile.FieldType.int), [])
theorem i_Q_ask : qk_isM m_Q_ask := ⟨Or.inl ⟨rfl, (lw_i2 _ (List.mem_of_getElem? (i := 127) rfl))⟩, rfl, ic_Q.1, ic_Q.2, Nat.le_of_ble_eq_true rfl⟩
def m_Ce_sendRequest : qk_M := (⟨"QuakeLink$Centre", "sendRequest", "(LQuakeLink$Air;)Z"⟩, prog_3_method_2_code, 6, (Option.some Jvm.ClassFile.FieldType.boolean), [])
theorem i_Ce_sendRequest : qk_isM m_Ce_sendRequest := ⟨Or.inl ⟨rfl, (lw_i2 _ (List.mem_of_getElem? (i := 131) rfl))⟩, rfl, ic_Ce.1, ic_Ce.2, Nat.le_of_ble_eq_true rfl⟩
def m_Tr_startOfGapFrom : qk_M := (⟨"QuakeLink$Track", "startOfGapFrom", "(I)I"⟩, prog_11_method_9_code, 3, (Option.some Jvm.ClassFile.FieldType.int), [])
theorem i_Tr_startOfGapFrom : qk_isM m_Tr_startOfGapFrom := ⟨Or.inl ⟨rfl, (lw_i2 _ (List.mem_of_getElem? (i := 136) rfl))⟩, rfl, ic_Tr.1, ic_Tr.2, Nat.le_of_ble_eq_true rfl⟩
def m_Tr_endOfGap : qk_M := (⟨"QuakeLink$Track", "endOfGap", "(I)I"⟩, prog_11_method_8_code, 2, (Option.some Jvm.ClassFile.FieldType.int), [])
theorem i_Tr_endOfGap : qk_isM m_Tr_endOfGap := ⟨Or.inl ⟨rfl, (lw_i2 _ (List.mem_of_getElem? (i := 145) rfl))⟩, rfl, ic_Tr.1, ic_Tr.2, Nat.le_of_ble_eq_true rfl⟩
def m_La_sample : qk_M := (⟨"QuakeLinkLaw", "sample", "(LQuakeLink;II[J)I"⟩, method_3_code, 5, (Option.some Jvm.ClassFile.FieldType.int), [(0, 10, 13, 13), (0, 10, 17, 15)])
theorem ic_La : ("QuakeLinkLaw" ≠ "java/lang/invoke/MethodHandle" ∧ "QuakeLinkLaw" ≠ "java/lang/invoke/VarHandle") ∧ Cond.initialized "QuakeLinkLaw" ∈ lw_tbl := ⟨⟨by decide +kernel, by decide +kernel⟩, (lw_i1 _ (List.mem_of_getElem? (i := 0) rfl))⟩
theorem i_La_sample : qk_isM m_La_sample := ⟨Or.inr (lw_i2 _ (List.mem_of_getElem? (i := 149) rfl)), rfl, ic_La.1, ic_La.2, Nat.le_of_ble_eq_true rfl⟩
def m_Q_sample : qk_M := (⟨"QuakeLink", "sample", "(II)I"⟩, prog_1_method_2_code, 5, (Option.some Jvm.ClassFile.FieldType.int), [])
theorem i_Q_sample : qk_isM m_Q_sample := ⟨Or.inl ⟨rfl, (lw_i2 _ (List.mem_of_getElem? (i := 155) rfl))⟩, rfl, ic_Q.1, ic_Q.2, Nat.le_of_ble_eq_true rfl⟩
def m_Q_channelOf : qk_M := (⟨"QuakeLink", "channelOf", "(I)LQuakeLink$Channel;"⟩, prog_1_method_24_code, 2, (Option.some (Jvm.ClassFile.FieldType.object "QuakeLink$Channel")), [])
theorem i_Q_channelOf : qk_isM m_Q_channelOf := ⟨Or.inl ⟨rfl, (lw_i2 _ (List.mem_of_getElem? (i := 159) rfl))⟩, rfl, ic_Q.1, ic_Q.2, Nat.le_of_ble_eq_true rfl⟩
def m_Q_isChannel : qk_M := (⟨"QuakeLink", "isChannel", "(J)Z"⟩, prog_1_method_23_code, 2, (Option.some Jvm.ClassFile.FieldType.boolean), [])
theorem i_Q_isChannel : qk_isM m_Q_isChannel := ⟨Or.inl ⟨rfl, (lw_i2 _ (List.mem_of_getElem? (i := 162) rfl))⟩, rfl, ic_Q.1, ic_Q.2, Nat.le_of_ble_eq_true rfl⟩
def m_Q_refuseBeyondLimit : qk_M := (⟨"QuakeLink", "refuseBeyondLimit", "(LQuakeLink$Channel;I)V"⟩, prog_1_method_22_code, 2, (Option.none : Option Jvm.ClassFile.FieldType), [])
theorem i_Q_refuseBeyondLimit : qk_isM m_Q_refuseBeyondLimit := ⟨Or.inl ⟨rfl, (lw_i2 _ (List.mem_of_getElem? (i := 233) rfl))⟩, rfl, ic_Q.1, ic_Q.2, Nat.le_of_ble_eq_true rfl⟩
def m_St_take : qk_M := (⟨"QuakeLink$Station", "take", "(LQuakeLink$Channel;I)V"⟩, prog_10_method_2_code, 3, (Option.none : Option Jvm.ClassFile.FieldType), [])
theorem i_St_take : qk_isM m_St_take := ⟨Or.inl ⟨rfl, (lw_i3 _ (List.mem_of_getElem? (i := 14) rfl))⟩, rfl, ic_St.1, ic_St.2, Nat.le_of_ble_eq_true rfl⟩
def m_Ch_mustCloseBefore : qk_M := (⟨"QuakeLink$Channel", "mustCloseBefore", "(I)Z"⟩, prog_4_method_5_code, 2, (Option.some Jvm.ClassFile.FieldType.boolean), [])
theorem i_Ch_mustCloseBefore : qk_isM m_Ch_mustCloseBefore := ⟨Or.inl ⟨rfl, (lw_i3 _ (List.mem_of_getElem? (i := 18) rfl))⟩, rfl, ic_Ch.1, ic_Ch.2, Nat.le_of_ble_eq_true rfl⟩
def m_Ch_inOpen : qk_M := (⟨"QuakeLink$Channel", "inOpen", "()I"⟩, prog_4_method_2_code, 1, (Option.some Jvm.ClassFile.FieldType.int), [])
theorem i_Ch_inOpen : qk_isM m_Ch_inOpen := ⟨Or.inl ⟨rfl, (lw_i3 _ (List.mem_of_getElem? (i := 22) rfl))⟩, rfl, ic_Ch.1, ic_Ch.2, Nat.le_of_ble_eq_true rfl⟩
def m_Pa_fits : qk_M := (⟨"QuakeLink$Packet", "fits", "(I)Z"⟩, prog_8_method_3_code, 3, (Option.some Jvm.ClassFile.FieldType.boolean), [])
theorem i_Pa_fits : qk_isM m_Pa_fits := ⟨Or.inl ⟨rfl, (lw_i3 _ (List.mem_of_getElem? (i := 26) rfl))⟩, rfl, ic_Pa.1, ic_Pa.2, Nat.le_of_ble_eq_true rfl⟩
def m_Pa_codeWith : qk_M := (⟨"QuakeLink$Packet", "codeWith", "(I)I"⟩, prog_8_method_7_code, 3, (Option.some Jvm.ClassFile.FieldType.int), [])
theorem i_Pa_codeWith : qk_isM m_Pa_codeWith := ⟨Or.inl ⟨rfl, (lw_i3 _ (List.mem_of_getElem? (i := 32) rfl))⟩, rfl, ic_Pa.1, ic_Pa.2, Nat.le_of_ble_eq_true rfl⟩
def m_Pa_fitsIn : qk_M := (⟨"QuakeLink$Packet", "fitsIn", "(II)Z"⟩, prog_8_method_8_code, 2, (Option.some Jvm.ClassFile.FieldType.boolean), [])
theorem i_Pa_fitsIn : qk_isM m_Pa_fitsIn := ⟨Or.inl ⟨rfl, (lw_i3 _ (List.mem_of_getElem? (i := 35) rfl))⟩, rfl, ic_Pa.1, ic_Pa.2, Nat.le_of_ble_eq_true rfl⟩
def m_Pa_sizeFor : qk_M := (⟨"QuakeLink$Packet", "sizeFor", "(I)I"⟩, prog_8_method_6_code, 1, (Option.some Jvm.ClassFile.FieldType.int), [])
theorem i_Pa_sizeFor : qk_isM m_Pa_sizeFor := ⟨Or.inl ⟨rfl, (lw_i3 _ (List.mem_of_getElem? (i := 38) rfl))⟩, rfl, ic_Pa.1, ic_Pa.2, Nat.le_of_ble_eq_true rfl⟩
def m_St_close : qk_M := (⟨"QuakeLink$Station", "close", "(LQuakeLink$Channel;)V"⟩, prog_10_method_3_code, 2, (Option.none : Option Jvm.ClassFile.FieldType), [])
theorem i_St_close : qk_isM m_St_close := ⟨Or.inl ⟨rfl, (lw_i3 _ (List.mem_of_getElem? (i := 42) rfl))⟩, rfl, ic_St.1, ic_St.2, Nat.le_of_ble_eq_true rfl⟩
def m_Ch_close : qk_M := (⟨"QuakeLink$Channel", "close", "(II)V"⟩, prog_4_method_7_code, 3, (Option.none : Option Jvm.ClassFile.FieldType), [])
theorem i_Ch_close : qk_isM m_Ch_close := ⟨Or.inl ⟨rfl, (lw_i3 _ (List.mem_of_getElem? (i := 46) rfl))⟩, rfl, ic_Ch.1, ic_Ch.2, Nat.le_of_ble_eq_true rfl⟩
def m_Pa_close : qk_M := (⟨"QuakeLink$Packet", "close", "(II)V"⟩, prog_8_method_5_code, 3, (Option.none : Option Jvm.ClassFile.FieldType), [])
theorem i_Pa_close : qk_isM m_Pa_close := ⟨Or.inl ⟨rfl, (lw_i3 _ (List.mem_of_getElem? (i := 50) rfl))⟩, rfl, ic_Pa.1, ic_Pa.2, Nat.le_of_ble_eq_true rfl⟩
def m_Pa_writeBlock : qk_M := (⟨"QuakeLink$Packet", "writeBlock", "()V"⟩, prog_8_method_9_code, 2, (Option.none : Option Jvm.ClassFile.FieldType), [])
theorem i_Pa_writeBlock : qk_isM m_Pa_writeBlock := ⟨Or.inl ⟨rfl, (lw_i3 _ (List.mem_of_getElem? (i := 54) rfl))⟩, rfl, ic_Pa.1, ic_Pa.2, Nat.le_of_ble_eq_true rfl⟩
def m_Pa_write : qk_M := (⟨"QuakeLink$Packet", "write", "(II)V"⟩, prog_8_method_10_code, 8, (Option.none : Option Jvm.ClassFile.FieldType), [])
theorem i_Pa_write : qk_isM m_Pa_write := ⟨Or.inl ⟨rfl, (lw_i3 _ (List.mem_of_getElem? (i := 58) rfl))⟩, rfl, ic_Pa.1, ic_Pa.2, Nat.le_of_ble_eq_true rfl⟩
def m_Ch_add : qk_M := (⟨"QuakeLink$Channel", "add", "(I)V"⟩, prog_4_method_6_code, 3, (Option.none : Option Jvm.ClassFile.FieldType), [])
theorem i_Ch_add : qk_isM m_Ch_add := ⟨Or.inl ⟨rfl, (lw_i3 _ (List.mem_of_getElem? (i := 63) rfl))⟩, rfl, ic_Ch.1, ic_Ch.2, Nat.le_of_ble_eq_true rfl⟩
def m_Pa_begin : qk_M := (⟨"QuakeLink$Packet", "begin", "(III)V"⟩, prog_8_method_2_code, 4, (Option.none : Option Jvm.ClassFile.FieldType), [])
theorem i_Pa_begin : qk_isM m_Pa_begin := ⟨Or.inl ⟨rfl, (lw_i3 _ (List.mem_of_getElem? (i := 67) rfl))⟩, rfl, ic_Pa.1, ic_Pa.2, Nat.le_of_ble_eq_true rfl⟩
def m_Pa_append : qk_M := (⟨"QuakeLink$Packet", "append", "(I)V"⟩, prog_8_method_4_code, 3, (Option.none : Option Jvm.ClassFile.FieldType), [])
theorem i_Pa_append : qk_isM m_Pa_append := ⟨Or.inl ⟨rfl, (lw_i3 _ (List.mem_of_getElem? (i := 71) rfl))⟩, rfl, ic_Pa.1, ic_Pa.2, Nat.le_of_ble_eq_true rfl⟩
def m_La_samples : qk_M := (⟨"QuakeLinkLaw", "samples", "(LQuakeLink;IIIII[J)I"⟩, method_4_code, 8, (Option.some Jvm.ClassFile.FieldType.int), [(0, 16, 19, 13), (0, 16, 23, 21), (0, 16, 27, 15)])
theorem i_La_samples : qk_isM m_La_samples := ⟨Or.inr (lw_i3 _ (List.mem_of_getElem? (i := 75) rfl)), rfl, ic_La.1, ic_La.2, Nat.le_of_ble_eq_true rfl⟩
def m_Q_samples : qk_M := (⟨"QuakeLink", "samples", "(IIIII)I"⟩, prog_1_method_3_code, 11, (Option.some Jvm.ClassFile.FieldType.int), [])
theorem i_Q_samples : qk_isM m_Q_samples := ⟨Or.inl ⟨rfl, (lw_i3 _ (List.mem_of_getElem? (i := 80) rfl))⟩, rfl, ic_Q.1, ic_Q.2, Nat.le_of_ble_eq_true rfl⟩
def m_La_quality : qk_M := (⟨"QuakeLinkLaw", "quality", "(LQuakeLink;I)I"⟩, method_5_code, 3, (Option.some Jvm.ClassFile.FieldType.int), [(0, 5, 8, 21)])
theorem i_La_quality : qk_isM m_La_quality := ⟨Or.inr (lw_i3 _ (List.mem_of_getElem? (i := 99) rfl)), rfl, ic_La.1, ic_La.2, Nat.le_of_ble_eq_true rfl⟩
def m_Q_quality : qk_M := (⟨"QuakeLink", "quality", "(I)V"⟩, prog_1_method_4_code, 2, (Option.none : Option Jvm.ClassFile.FieldType), [])
theorem i_Q_quality : qk_isM m_Q_quality := ⟨Or.inl ⟨rfl, (lw_i3 _ (List.mem_of_getElem? (i := 103) rfl))⟩, rfl, ic_Q.1, ic_Q.2, Nat.le_of_ble_eq_true rfl⟩
def m_La_flush : qk_M := (⟨"QuakeLinkLaw", "flush", "(LQuakeLink;I[J)I"⟩, method_6_code, 4, (Option.some Jvm.ClassFile.FieldType.int), [(0, 9, 12, 13)])
theorem i_La_flush : qk_isM m_La_flush := ⟨Or.inr (lw_i3 _ (List.mem_of_getElem? (i := 107) rfl)), rfl, ic_La.1, ic_La.2, Nat.le_of_ble_eq_true rfl⟩
def m_Q_flush : qk_M := (⟨"QuakeLink", "flush", "(I)I"⟩, prog_1_method_5_code, 4, (Option.some Jvm.ClassFile.FieldType.int), [])
theorem i_Q_flush : qk_isM m_Q_flush := ⟨Or.inl ⟨rfl, (lw_i3 _ (List.mem_of_getElem? (i := 111) rfl))⟩, rfl, ic_Q.1, ic_Q.2, Nat.le_of_ble_eq_true rfl⟩
def m_La_deliver : qk_M := (⟨"QuakeLinkLaw", "deliver", "(LQuakeLink;I[J)I"⟩, method_7_code, 4, (Option.some Jvm.ClassFile.FieldType.int), [(0, 9, 12, 13)])
theorem i_La_deliver : qk_isM m_La_deliver := ⟨Or.inr (lw_i3 _ (List.mem_of_getElem? (i := 116) rfl)), rfl, ic_La.1, ic_La.2, Nat.le_of_ble_eq_true rfl⟩
def m_Q_deliver : qk_M := (⟨"QuakeLink", "deliver", "(I)I"⟩, prog_1_method_8_code, 2, (Option.some Jvm.ClassFile.FieldType.int), [])
theorem i_Q_deliver : qk_isM m_Q_deliver := ⟨Or.inl ⟨rfl, (lw_i3 _ (List.mem_of_getElem? (i := 120) rfl))⟩, rfl, ic_Q.1, ic_Q.2, Nat.le_of_ble_eq_true rfl⟩
def m_Q_messageOf : qk_M := (⟨"QuakeLink", "messageOf", "(I)LQuakeLink$Message;"⟩, prog_1_method_26_code, 3, (Option.some (Jvm.ClassFile.FieldType.object "QuakeLink$Message")), [])
theorem i_Q_messageOf : qk_isM m_Q_messageOf := ⟨Or.inl ⟨rfl, (lw_i3 _ (List.mem_of_getElem? (i := 124) rfl))⟩, rfl, ic_Q.1, ic_Q.2, Nat.le_of_ble_eq_true rfl⟩
def m_Ai_find : qk_M := (⟨"QuakeLink$Air", "find", "(I)LQuakeLink$Message;"⟩, prog_2_method_4_code, 3, (Option.some (Jvm.ClassFile.FieldType.object "QuakeLink$Message")), [])
theorem i_Ai_find : qk_isM m_Ai_find := ⟨Or.inl ⟨rfl, (lw_i3 _ (List.mem_of_getElem? (i := 128) rfl))⟩, rfl, ic_Ai.1, ic_Ai.2, Nat.le_of_ble_eq_true rfl⟩
def m_Ce_receive : qk_M := (⟨"QuakeLink$Centre", "receive", "(LQuakeLink$Message;)I"⟩, prog_3_method_3_code, 3, (Option.some Jvm.ClassFile.FieldType.int), [])
theorem i_Ce_receive : qk_isM m_Ce_receive := ⟨Or.inl ⟨rfl, (lw_i3 _ (List.mem_of_getElem? (i := 133) rfl))⟩, rfl, ic_Ce.1, ic_Ce.2, Nat.le_of_ble_eq_true rfl⟩
def m_Ce_isSound : qk_M := (⟨"QuakeLink$Centre", "isSound", "(LQuakeLink$Message;)Z"⟩, prog_3_method_4_code, 1, (Option.some Jvm.ClassFile.FieldType.boolean), [])
theorem i_Ce_isSound : qk_isM m_Ce_isSound := ⟨Or.inl ⟨rfl, (lw_i3 _ (List.mem_of_getElem? (i := 136) rfl))⟩, rfl, ic_Ce.1, ic_Ce.2, Nat.le_of_ble_eq_true rfl⟩
def m_Me_isSealed : qk_M := (⟨"QuakeLink$Message", "isSealed", "()Z"⟩, prog_6_method_7_code, 1, (Option.some Jvm.ClassFile.FieldType.boolean), [])
theorem i_Me_isSealed : qk_isM m_Me_isSealed := ⟨Or.inl ⟨rfl, (lw_i3 _ (List.mem_of_getElem? (i := 140) rfl))⟩, rfl, ic_Me.1, ic_Me.2, Nat.le_of_ble_eq_true rfl⟩
def m_Me_value : qk_M := (⟨"QuakeLink$Message", "value", "(I)I"⟩, prog_6_method_4_code, 2, (Option.some Jvm.ClassFile.FieldType.int), [])
theorem i_Me_value : qk_isM m_Me_value := ⟨Or.inl ⟨rfl, (lw_i3 _ (List.mem_of_getElem? (i := 144) rfl))⟩, rfl, ic_Me.1, ic_Me.2, Nat.le_of_ble_eq_true rfl⟩
def m_Me_number : qk_M := (⟨"QuakeLink$Message", "number", "(II)J"⟩, prog_6_method_3_code, 6, (Option.some Jvm.ClassFile.FieldType.long), [])
theorem i_Me_number : qk_isM m_Me_number := ⟨Or.inl ⟨rfl, (lw_i3 _ (List.mem_of_getElem? (i := 148) rfl))⟩, rfl, ic_Me.1, ic_Me.2, Nat.le_of_ble_eq_true rfl⟩
def m_Ce_isEmpty : qk_M := (⟨"QuakeLink$Centre", "isEmpty", "(LQuakeLink$Message;)Z"⟩, prog_3_method_5_code, 1, (Option.some Jvm.ClassFile.FieldType.boolean), [])
theorem i_Ce_isEmpty : qk_isM m_Ce_isEmpty := ⟨Or.inl ⟨rfl, (lw_i3 _ (List.mem_of_getElem? (i := 155) rfl))⟩, rfl, ic_Ce.1, ic_Ce.2, Nat.le_of_ble_eq_true rfl⟩
def m_Ce_isFilled : qk_M := (⟨"QuakeLink$Centre", "isFilled", "(LQuakeLink$Message;)Z"⟩, prog_3_method_6_code, 7, (Option.some Jvm.ClassFile.FieldType.boolean), [])
theorem i_Ce_isFilled : qk_isM m_Ce_isFilled := ⟨Or.inl ⟨rfl, (lw_i3 _ (List.mem_of_getElem? (i := 158) rfl))⟩, rfl, ic_Ce.1, ic_Ce.2, Nat.le_of_ble_eq_true rfl⟩
def m_De_init : qk_M := (⟨"QuakeLink$Decoder", "<init>", "(LQuakeLink$Message;)V"⟩, prog_5_method_1_code, 2, (Option.none : Option Jvm.ClassFile.FieldType), [])
theorem ic_De : ("QuakeLink$Decoder" ≠ "java/lang/invoke/MethodHandle" ∧ "QuakeLink$Decoder" ≠ "java/lang/invoke/VarHandle") ∧ Cond.initialized "QuakeLink$Decoder" ∈ lw_tbl := ⟨⟨by decide +kernel, by decide +kernel⟩, (lw_i1 _ (List.mem_of_getElem? (i := 20) rfl))⟩
theorem i_De_init : qk_isM m_De_init := ⟨Or.inl ⟨rfl, (lw_i3 _ (List.mem_of_getElem? (i := 163) rfl))⟩, rfl, ic_De.1, ic_De.2, Nat.le_of_ble_eq_true rfl⟩
theorem ii_De_init : m_De_init.1.name = "<init>" → m_De_init.2.2.2.2 = [] ∧ Cond.code m_De_init.1 m_De_init.2.1 m_De_init.2.2.1 none ∈ lw_tbl := fun _ => ⟨rfl, (lw_i3 _ (List.mem_of_getElem? (i := 163) rfl))⟩
def m_De_advance : qk_M := (⟨"QuakeLink$Decoder", "advance", "()Z"⟩, prog_5_method_2_code, 2, (Option.some Jvm.ClassFile.FieldType.boolean), [])
theorem i_De_advance : qk_isM m_De_advance := ⟨Or.inl ⟨rfl, (lw_i3 _ (List.mem_of_getElem? (i := 199) rfl))⟩, rfl, ic_De.1, ic_De.2, Nat.le_of_ble_eq_true rfl⟩
def m_De_readWidth : qk_M := (⟨"QuakeLink$Decoder", "readWidth", "()Z"⟩, prog_5_method_4_code, 2, (Option.some Jvm.ClassFile.FieldType.boolean), [])
theorem i_De_readWidth : qk_isM m_De_readWidth := ⟨Or.inl ⟨rfl, (lw_i3 _ (List.mem_of_getElem? (i := 203) rfl))⟩, rfl, ic_De.1, ic_De.2, Nat.le_of_ble_eq_true rfl⟩
def m_De_isLeft : qk_M := (⟨"QuakeLink$Decoder", "isLeft", "(I)Z"⟩, prog_5_method_5_code, 2, (Option.some Jvm.ClassFile.FieldType.boolean), [])
theorem i_De_isLeft : qk_isM m_De_isLeft := ⟨Or.inl ⟨rfl, (lw_i3 _ (List.mem_of_getElem? (i := 207) rfl))⟩, rfl, ic_De.1, ic_De.2, Nat.le_of_ble_eq_true rfl⟩
def m_De_read : qk_M := (⟨"QuakeLink$Decoder", "read", "(I)I"⟩, prog_5_method_6_code, 2, (Option.some Jvm.ClassFile.FieldType.int), [])
theorem i_De_read : qk_isM m_De_read := ⟨Or.inl ⟨rfl, (lw_i3 _ (List.mem_of_getElem? (i := 211) rfl))⟩, rfl, ic_De.1, ic_De.2, Nat.le_of_ble_eq_true rfl⟩
def m_De_isAtEnd : qk_M := (⟨"QuakeLink$Decoder", "isAtEnd", "()Z"⟩, prog_5_method_3_code, 1, (Option.some Jvm.ClassFile.FieldType.boolean), [])
theorem i_De_isAtEnd : qk_isM m_De_isAtEnd := ⟨Or.inl ⟨rfl, (lw_i3 _ (List.mem_of_getElem? (i := 216) rfl))⟩, rfl, ic_De.1, ic_De.2, Nat.le_of_ble_eq_true rfl⟩
def m_Tr_clashes : qk_M := (⟨"QuakeLink$Track", "clashes", "(LQuakeLink$Message;)Z"⟩, prog_11_method_4_code, 6, (Option.some Jvm.ClassFile.FieldType.boolean), [])
theorem i_Tr_clashes : qk_isM m_Tr_clashes := ⟨Or.inl ⟨rfl, (lw_i3 _ (List.mem_of_getElem? (i := 222) rfl))⟩, rfl, ic_Tr.1, ic_Tr.2, Nat.le_of_ble_eq_true rfl⟩
def m_Ns_contains : qk_M := (⟨"QuakeLink$NumberSet", "contains", "(I)Z"⟩, prog_7_method_2_code, 2, (Option.some Jvm.ClassFile.FieldType.boolean), [])
theorem i_Ns_contains : qk_isM m_Ns_contains := ⟨Or.inl ⟨rfl, (lw_i3 _ (List.mem_of_getElem? (i := 230) rfl))⟩, rfl, ic_Ns.1, ic_Ns.2, Nat.le_of_ble_eq_true rfl⟩
def m_Tr_valueOf : qk_M := (⟨"QuakeLink$Track", "valueOf", "(I)I"⟩, prog_11_method_2_code, 2, (Option.some Jvm.ClassFile.FieldType.int), [])
theorem i_Tr_valueOf : qk_isM m_Tr_valueOf := ⟨Or.inl ⟨rfl, (lw_i3 _ (List.mem_of_getElem? (i := 234) rfl))⟩, rfl, ic_Tr.1, ic_Tr.2, Nat.le_of_ble_eq_true rfl⟩
def m_Tr_page : qk_M := (⟨"QuakeLink$Track", "page", "(I)LQuakeLink$Page;"⟩, prog_11_method_10_code, 3, (Option.some (Jvm.ClassFile.FieldType.object "QuakeLink$Page")), [])
theorem i_Tr_page : qk_isM m_Tr_page := ⟨Or.inl ⟨rfl, (lw_i3 _ (List.mem_of_getElem? (i := 238) rfl))⟩, rfl, ic_Tr.1, ic_Tr.2, Nat.le_of_ble_eq_true rfl⟩
def m_Pg_init : qk_M := (⟨"QuakeLink$Page", "<init>", "()V"⟩, prog_9_method_1_code, 1, (Option.none : Option Jvm.ClassFile.FieldType), [])
theorem ic_Pg : ("QuakeLink$Page" ≠ "java/lang/invoke/MethodHandle" ∧ "QuakeLink$Page" ≠ "java/lang/invoke/VarHandle") ∧ Cond.initialized "QuakeLink$Page" ∈ lw_tbl := ⟨⟨by decide +kernel, by decide +kernel⟩, (lw_i1 _ (List.mem_of_getElem? (i := 21) rfl))⟩
theorem i_Pg_init : qk_isM m_Pg_init := ⟨Or.inl ⟨rfl, (lw_i4 _ (List.mem_of_getElem? (i := 2) rfl))⟩, rfl, ic_Pg.1, ic_Pg.2, Nat.le_of_ble_eq_true rfl⟩
theorem ii_Pg_init : m_Pg_init.1.name = "<init>" → m_Pg_init.2.2.2.2 = [] ∧ Cond.code m_Pg_init.1 m_Pg_init.2.1 m_Pg_init.2.2.1 none ∈ lw_tbl := fun _ => ⟨rfl, (lw_i4 _ (List.mem_of_getElem? (i := 2) rfl))⟩
def m_Tr_keep : qk_M := (⟨"QuakeLink$Track", "keep", "(LQuakeLink$Message;)I"⟩, prog_11_method_5_code, 8, (Option.some Jvm.ClassFile.FieldType.int), [])
theorem i_Tr_keep : qk_isM m_Tr_keep := ⟨Or.inl ⟨rfl, (lw_i4 _ (List.mem_of_getElem? (i := 17) rfl))⟩, rfl, ic_Tr.1, ic_Tr.2, Nat.le_of_ble_eq_true rfl⟩
def m_Ns_include : qk_M := (⟨"QuakeLink$NumberSet", "include", "(II)I"⟩, prog_7_method_3_code, 8, (Option.some Jvm.ClassFile.FieldType.int), [])
theorem i_Ns_include : qk_isM m_Ns_include := ⟨Or.inl ⟨rfl, (lw_i4 _ (List.mem_of_getElem? (i := 21) rfl))⟩, rfl, ic_Ns.1, ic_Ns.2, Nat.le_of_ble_eq_true rfl⟩
def m_La_hear : qk_M := (⟨"QuakeLinkLaw", "hear", "(LQuakeLink;I[J)I"⟩, method_8_code, 4, (Option.some Jvm.ClassFile.FieldType.int), [(0, 9, 12, 13)])
theorem i_La_hear : qk_isM m_La_hear := ⟨Or.inr (lw_i4 _ (List.mem_of_getElem? (i := 24) rfl)), rfl, ic_La.1, ic_La.2, Nat.le_of_ble_eq_true rfl⟩
def m_Q_hear : qk_M := (⟨"QuakeLink", "hear", "(I)I"⟩, prog_1_method_9_code, 2, (Option.some Jvm.ClassFile.FieldType.int), [])
theorem i_Q_hear : qk_isM m_Q_hear := ⟨Or.inl ⟨rfl, (lw_i4 _ (List.mem_of_getElem? (i := 28) rfl))⟩, rfl, ic_Q.1, ic_Q.2, Nat.le_of_ble_eq_true rfl⟩
def m_St_receive : qk_M := (⟨"QuakeLink$Station", "receive", "(LQuakeLink$Message;)I"⟩, prog_10_method_6_code, 3, (Option.some Jvm.ClassFile.FieldType.int), [])
theorem i_St_receive : qk_isM m_St_receive := ⟨Or.inl ⟨rfl, (lw_i4 _ (List.mem_of_getElem? (i := 32) rfl))⟩, rfl, ic_St.1, ic_St.2, Nat.le_of_ble_eq_true rfl⟩
def m_St_isRequest : qk_M := (⟨"QuakeLink$Station", "isRequest", "(LQuakeLink$Message;)Z"⟩, prog_10_method_7_code, 1, (Option.some Jvm.ClassFile.FieldType.boolean), [])
theorem i_St_isRequest : qk_isM m_St_isRequest := ⟨Or.inl ⟨rfl, (lw_i4 _ (List.mem_of_getElem? (i := 35) rfl))⟩, rfl, ic_St.1, ic_St.2, Nat.le_of_ble_eq_true rfl⟩
def m_Ch_askFor : qk_M := (⟨"QuakeLink$Channel", "askFor", "(JJ)I"⟩, prog_4_method_12_code, 7, (Option.some Jvm.ClassFile.FieldType.int), [])
theorem i_Ch_askFor : qk_isM m_Ch_askFor := ⟨Or.inl ⟨rfl, (lw_i4 _ (List.mem_of_getElem? (i := 42) rfl))⟩, rfl, ic_Ch.1, ic_Ch.2, Nat.le_of_ble_eq_true rfl⟩
def m_Math_min_JJJ : qk_M := (⟨"java/lang/Math", "min", "(JJ)J"⟩, prog_19_method_70_code, 4, (Option.some Jvm.ClassFile.FieldType.long), [])
theorem i_Math_min_JJJ : qk_isM m_Math_min_JJJ := ⟨Or.inl ⟨rfl, (lw_i4 _ (List.mem_of_getElem? (i := 46) rfl))⟩, by decide +kernel, ic_Math.1, ic_Math.2, Nat.le_of_ble_eq_true rfl⟩
def m_La_lose : qk_M := (⟨"QuakeLinkLaw", "lose", "(LQuakeLink;I)I"⟩, method_9_code, 3, (Option.some Jvm.ClassFile.FieldType.int), [(0, 5, 8, 13)])
theorem i_La_lose : qk_isM m_La_lose := ⟨Or.inr (lw_i4 _ (List.mem_of_getElem? (i := 50) rfl)), rfl, ic_La.1, ic_La.2, Nat.le_of_ble_eq_true rfl⟩
def m_Q_lose : qk_M := (⟨"QuakeLink", "lose", "(I)V"⟩, prog_1_method_10_code, 2, (Option.none : Option Jvm.ClassFile.FieldType), [])
theorem i_Q_lose : qk_isM m_Q_lose := ⟨Or.inl ⟨rfl, (lw_i4 _ (List.mem_of_getElem? (i := 54) rfl))⟩, rfl, ic_Q.1, ic_Q.2, Nat.le_of_ble_eq_true rfl⟩
def m_La_length : qk_M := (⟨"QuakeLinkLaw", "length", "(LQuakeLink;I[J)I"⟩, method_10_code, 4, (Option.some Jvm.ClassFile.FieldType.int), [(0, 9, 12, 13)])
theorem i_La_length : qk_isM m_La_length := ⟨Or.inr (lw_i4 _ (List.mem_of_getElem? (i := 57) rfl)), rfl, ic_La.1, ic_La.2, Nat.le_of_ble_eq_true rfl⟩
def m_Q_length : qk_M := (⟨"QuakeLink", "length", "(I)I"⟩, prog_1_method_11_code, 2, (Option.some Jvm.ClassFile.FieldType.int), [])
theorem i_Q_length : qk_isM m_Q_length := ⟨Or.inl ⟨rfl, (lw_i4 _ (List.mem_of_getElem? (i := 61) rfl))⟩, rfl, ic_Q.1, ic_Q.2, Nat.le_of_ble_eq_true rfl⟩
def m_La_air : qk_M := (⟨"QuakeLinkLaw", "air", "(LQuakeLink;II[J)I"⟩, method_11_code, 5, (Option.some Jvm.ClassFile.FieldType.int), [(0, 10, 13, 13)])
theorem i_La_air : qk_isM m_La_air := ⟨Or.inr (lw_i4 _ (List.mem_of_getElem? (i := 64) rfl)), rfl, ic_La.1, ic_La.2, Nat.le_of_ble_eq_true rfl⟩
def m_Q_air : qk_M := (⟨"QuakeLink", "air", "(II)I"⟩, prog_1_method_12_code, 3, (Option.some Jvm.ClassFile.FieldType.int), [])
theorem i_Q_air : qk_isM m_Q_air := ⟨Or.inl ⟨rfl, (lw_i4 _ (List.mem_of_getElem? (i := 68) rfl))⟩, rfl, ic_Q.1, ic_Q.2, Nat.le_of_ble_eq_true rfl⟩
def m_Q_messageWithByte : qk_M := (⟨"QuakeLink", "messageWithByte", "(II)LQuakeLink$Message;"⟩, prog_1_method_27_code, 4, (Option.some (Jvm.ClassFile.FieldType.object "QuakeLink$Message")), [])
theorem i_Q_messageWithByte : qk_isM m_Q_messageWithByte := ⟨Or.inl ⟨rfl, (lw_i4 _ (List.mem_of_getElem? (i := 72) rfl))⟩, rfl, ic_Q.1, ic_Q.2, Nat.le_of_ble_eq_true rfl⟩
def m_La_spoil : qk_M := (⟨"QuakeLinkLaw", "spoil", "(LQuakeLink;III)I"⟩, method_12_code, 5, (Option.some Jvm.ClassFile.FieldType.int), [(0, 7, 10, 13)])
theorem i_La_spoil : qk_isM m_La_spoil := ⟨Or.inr (lw_i4 _ (List.mem_of_getElem? (i := 76) rfl)), rfl, ic_La.1, ic_La.2, Nat.le_of_ble_eq_true rfl⟩
def m_Q_spoil : qk_M := (⟨"QuakeLink", "spoil", "(III)V"⟩, prog_1_method_13_code, 5, (Option.none : Option Jvm.ClassFile.FieldType), [])
theorem i_Q_spoil : qk_isM m_Q_spoil := ⟨Or.inl ⟨rfl, (lw_i4 _ (List.mem_of_getElem? (i := 80) rfl))⟩, rfl, ic_Q.1, ic_Q.2, Nat.le_of_ble_eq_true rfl⟩
def m_La_mend : qk_M := (⟨"QuakeLinkLaw", "mend", "(LQuakeLink;I)I"⟩, method_13_code, 3, (Option.some Jvm.ClassFile.FieldType.int), [(0, 5, 8, 13)])
theorem i_La_mend : qk_isM m_La_mend := ⟨Or.inr (lw_i4 _ (List.mem_of_getElem? (i := 83) rfl)), rfl, ic_La.1, ic_La.2, Nat.le_of_ble_eq_true rfl⟩
def m_Q_mend : qk_M := (⟨"QuakeLink", "mend", "(I)V"⟩, prog_1_method_14_code, 2, (Option.none : Option Jvm.ClassFile.FieldType), [])
theorem i_Q_mend : qk_isM m_Q_mend := ⟨Or.inl ⟨rfl, (lw_i4 _ (List.mem_of_getElem? (i := 87) rfl))⟩, rfl, ic_Q.1, ic_Q.2, Nat.le_of_ble_eq_true rfl⟩
def m_La_has : qk_M := (⟨"QuakeLinkLaw", "has", "(LQuakeLink;II[J)I"⟩, method_14_code, 5, (Option.some Jvm.ClassFile.FieldType.int), [(0, 17, 20, 13)])
theorem i_La_has : qk_isM m_La_has := ⟨Or.inr (lw_i4 _ (List.mem_of_getElem? (i := 91) rfl)), rfl, ic_La.1, ic_La.2, Nat.le_of_ble_eq_true rfl⟩
def m_Q_has : qk_M := (⟨"QuakeLink", "has", "(II)Z"⟩, prog_1_method_15_code, 3, (Option.some Jvm.ClassFile.FieldType.boolean), [])
theorem i_Q_has : qk_isM m_Q_has := ⟨Or.inl ⟨rfl, (lw_i4 _ (List.mem_of_getElem? (i := 95) rfl))⟩, rfl, ic_Q.1, ic_Q.2, Nat.le_of_ble_eq_true rfl⟩
def m_Q_trackOf : qk_M := (⟨"QuakeLink", "trackOf", "(I)LQuakeLink$Track;"⟩, prog_1_method_25_code, 2, (Option.some (Jvm.ClassFile.FieldType.object "QuakeLink$Track")), [])
theorem i_Q_trackOf : qk_isM m_Q_trackOf := ⟨Or.inl ⟨rfl, (lw_i4 _ (List.mem_of_getElem? (i := 99) rfl))⟩, rfl, ic_Q.1, ic_Q.2, Nat.le_of_ble_eq_true rfl⟩
def m_La_at : qk_M := (⟨"QuakeLinkLaw", "at", "(LQuakeLink;II[J)I"⟩, method_15_code, 5, (Option.some Jvm.ClassFile.FieldType.int), [(0, 10, 13, 13)])
theorem i_La_at : qk_isM m_La_at := ⟨Or.inr (lw_i4 _ (List.mem_of_getElem? (i := 103) rfl)), rfl, ic_La.1, ic_La.2, Nat.le_of_ble_eq_true rfl⟩
def m_Q_at : qk_M := (⟨"QuakeLink", "at", "(II)I"⟩, prog_1_method_16_code, 3, (Option.some Jvm.ClassFile.FieldType.int), [])
theorem i_Q_at : qk_isM m_Q_at := ⟨Or.inl ⟨rfl, (lw_i4 _ (List.mem_of_getElem? (i := 107) rfl))⟩, rfl, ic_Q.1, ic_Q.2, Nat.le_of_ble_eq_true rfl⟩
def m_La_qualityAt : qk_M := (⟨"QuakeLinkLaw", "qualityAt", "(LQuakeLink;II[J)I"⟩, method_16_code, 5, (Option.some Jvm.ClassFile.FieldType.int), [(0, 10, 13, 13)])
theorem i_La_qualityAt : qk_isM m_La_qualityAt := ⟨Or.inr (lw_i4 _ (List.mem_of_getElem? (i := 111) rfl)), rfl, ic_La.1, ic_La.2, Nat.le_of_ble_eq_true rfl⟩
def m_Q_qualityAt : qk_M := (⟨"QuakeLink", "qualityAt", "(II)I"⟩, prog_1_method_17_code, 3, (Option.some Jvm.ClassFile.FieldType.int), [])
theorem i_Q_qualityAt : qk_isM m_Q_qualityAt := ⟨Or.inl ⟨rfl, (lw_i4 _ (List.mem_of_getElem? (i := 115) rfl))⟩, rfl, ic_Q.1, ic_Q.2, Nat.le_of_ble_eq_true rfl⟩
def m_Tr_qualityOf : qk_M := (⟨"QuakeLink$Track", "qualityOf", "(I)I"⟩, prog_11_method_3_code, 2, (Option.some Jvm.ClassFile.FieldType.int), [])
theorem i_Tr_qualityOf : qk_isM m_Tr_qualityOf := ⟨Or.inl ⟨rfl, (lw_i4 _ (List.mem_of_getElem? (i := 119) rfl))⟩, rfl, ic_Tr.1, ic_Tr.2, Nat.le_of_ble_eq_true rfl⟩
def m_La_gaps : qk_M := (⟨"QuakeLinkLaw", "gaps", "(LQuakeLink;I[J)I"⟩, method_17_code, 4, (Option.some Jvm.ClassFile.FieldType.int), [(0, 9, 12, 13)])
theorem i_La_gaps : qk_isM m_La_gaps := ⟨Or.inr (lw_i4 _ (List.mem_of_getElem? (i := 122) rfl)), rfl, ic_La.1, ic_La.2, Nat.le_of_ble_eq_true rfl⟩
def m_Q_gaps : qk_M := (⟨"QuakeLink", "gaps", "(I)I"⟩, prog_1_method_18_code, 2, (Option.some Jvm.ClassFile.FieldType.int), [])
theorem i_Q_gaps : qk_isM m_Q_gaps := ⟨Or.inl ⟨rfl, (lw_i4 _ (List.mem_of_getElem? (i := 126) rfl))⟩, rfl, ic_Q.1, ic_Q.2, Nat.le_of_ble_eq_true rfl⟩
def m_Tr_howManyGaps : qk_M := (⟨"QuakeLink$Track", "howManyGaps", "()I"⟩, prog_11_method_6_code, 3, (Option.some Jvm.ClassFile.FieldType.int), [])
theorem i_Tr_howManyGaps : qk_isM m_Tr_howManyGaps := ⟨Or.inl ⟨rfl, (lw_i4 _ (List.mem_of_getElem? (i := 130) rfl))⟩, rfl, ic_Tr.1, ic_Tr.2, Nat.le_of_ble_eq_true rfl⟩
def m_La_gap : qk_M := (⟨"QuakeLinkLaw", "gap", "(LQuakeLink;IIZ[J)I"⟩, method_18_code, 6, (Option.some Jvm.ClassFile.FieldType.int), [(0, 12, 15, 13)])
theorem i_La_gap : qk_isM m_La_gap := ⟨Or.inr (lw_i4 _ (List.mem_of_getElem? (i := 135) rfl)), rfl, ic_La.1, ic_La.2, Nat.le_of_ble_eq_true rfl⟩
def m_Q_gap : qk_M := (⟨"QuakeLink", "gap", "(IIZ)I"⟩, prog_1_method_19_code, 6, (Option.some Jvm.ClassFile.FieldType.int), [])
theorem i_Q_gap : qk_isM m_Q_gap := ⟨Or.inl ⟨rfl, (lw_i4 _ (List.mem_of_getElem? (i := 139) rfl))⟩, rfl, ic_Q.1, ic_Q.2, Nat.le_of_ble_eq_true rfl⟩
def m_Tr_startOfGap : qk_M := (⟨"QuakeLink$Track", "startOfGap", "(I)I"⟩, prog_11_method_7_code, 4, (Option.some Jvm.ClassFile.FieldType.int), [])
theorem i_Tr_startOfGap : qk_isM m_Tr_startOfGap := ⟨Or.inl ⟨rfl, (lw_i4 _ (List.mem_of_getElem? (i := 143) rfl))⟩, rfl, ic_Tr.1, ic_Tr.2, Nat.le_of_ble_eq_true rfl⟩
def m_La_count : qk_M := (⟨"QuakeLinkLaw", "count", "(LQuakeLink;II[J)I"⟩, method_19_code, 5, (Option.some Jvm.ClassFile.FieldType.int), [(0, 10, 13, 13), (0, 10, 17, 21)])
theorem i_La_count : qk_isM m_La_count := ⟨Or.inr (lw_i4 _ (List.mem_of_getElem? (i := 148) rfl)), rfl, ic_La.1, ic_La.2, Nat.le_of_ble_eq_true rfl⟩
def m_Q_count : qk_M := (⟨"QuakeLink", "count", "(II)I"⟩, prog_1_method_20_code, 5, (Option.some Jvm.ClassFile.FieldType.int), [])
theorem i_Q_count : qk_isM m_Q_count := ⟨Or.inl ⟨rfl, (lw_i4 _ (List.mem_of_getElem? (i := 152) rfl))⟩, rfl, ic_Q.1, ic_Q.2, Nat.le_of_ble_eq_true rfl⟩
def m_La_total : qk_M := (⟨"QuakeLinkLaw", "total", "(LQuakeLink;I[J)I"⟩, method_20_code, 4, (Option.some Jvm.ClassFile.FieldType.int), [(0, 9, 12, 21)])
theorem i_La_total : qk_isM m_La_total := ⟨Or.inr (lw_i4 _ (List.mem_of_getElem? (i := 158) rfl)), rfl, ic_La.1, ic_La.2, Nat.le_of_ble_eq_true rfl⟩
def m_Q_total : qk_M := (⟨"QuakeLink", "total", "(I)I"⟩, prog_1_method_21_code, 2, (Option.some Jvm.ClassFile.FieldType.int), [])
theorem i_Q_total : qk_isM m_Q_total := ⟨Or.inl ⟨rfl, (lw_i4 _ (List.mem_of_getElem? (i := 162) rfl))⟩, rfl, ic_Q.1, ic_Q.2, Nat.le_of_ble_eq_true rfl⟩
def m_St_howManyWait : qk_M := (⟨"QuakeLink$Station", "howManyWait", "()I"⟩, prog_10_method_4_code, 3, (Option.some Jvm.ClassFile.FieldType.int), [])
theorem i_St_howManyWait : qk_isM m_St_howManyWait := ⟨Or.inl ⟨rfl, (lw_i4 _ (List.mem_of_getElem? (i := 166) rfl))⟩, rfl, ic_St.1, ic_St.2, Nat.le_of_ble_eq_true rfl⟩
def m_Mo_init : qk_M := (⟨"QuakeLinkModel", "<init>", "()V"⟩, prog_13_method_1_code, 1, (Option.none : Option Jvm.ClassFile.FieldType), [])
theorem ic_Mo : ("QuakeLinkModel" ≠ "java/lang/invoke/MethodHandle" ∧ "QuakeLinkModel" ≠ "java/lang/invoke/VarHandle") ∧ Cond.initialized "QuakeLinkModel" ∈ lw_tbl := ⟨⟨by decide +kernel, by decide +kernel⟩, (lw_i1 _ (List.mem_of_getElem? (i := 8) rfl))⟩
theorem i_Mo_init : qk_isM m_Mo_init := ⟨Or.inl ⟨rfl, (lw_i4 _ (List.mem_of_getElem? (i := 172) rfl))⟩, rfl, ic_Mo.1, ic_Mo.2, Nat.le_of_ble_eq_true rfl⟩
theorem ii_Mo_init : m_Mo_init.1.name = "<init>" → m_Mo_init.2.2.2.2 = [] ∧ Cond.code m_Mo_init.1 m_Mo_init.2.1 m_Mo_init.2.2.1 none ∈ lw_tbl := fun _ => ⟨rfl, (lw_i4 _ (List.mem_of_getElem? (i := 172) rfl))⟩
def m_Mo_thrown : qk_M := (⟨"QuakeLinkModel", "thrown", "()I"⟩, prog_13_method_2_code, 1, (Option.some Jvm.ClassFile.FieldType.int), [])
theorem i_Mo_thrown : qk_isM m_Mo_thrown := ⟨Or.inl ⟨rfl, (lw_i5 _ (List.mem_of_getElem? (i := 43) rfl))⟩, rfl, ic_Mo.1, ic_Mo.2, Nat.le_of_ble_eq_true rfl⟩
def m_Mo_sample : qk_M := (⟨"QuakeLinkModel", "sample", "(II)I"⟩, prog_13_method_13_code, 3, (Option.some Jvm.ClassFile.FieldType.int), [])
theorem i_Mo_sample : qk_isM m_Mo_sample := ⟨Or.inl ⟨rfl, (lw_i5 _ (List.mem_of_getElem? (i := 47) rfl))⟩, rfl, ic_Mo.1, ic_Mo.2, Nat.le_of_ble_eq_true rfl⟩
def m_Mo_isChannel : qk_M := (⟨"QuakeLinkModel", "isChannel", "(I)Z"⟩, prog_13_method_3_code, 1, (Option.some Jvm.ClassFile.FieldType.boolean), [])
theorem i_Mo_isChannel : qk_isM m_Mo_isChannel := ⟨Or.inl ⟨rfl, (lw_i5 _ (List.mem_of_getElem? (i := 50) rfl))⟩, rfl, ic_Mo.1, ic_Mo.2, Nat.le_of_ble_eq_true rfl⟩
def m_Mo_take : qk_M := (⟨"QuakeLinkModel", "take", "(II)V"⟩, prog_13_method_12_code, 6, (Option.none : Option Jvm.ClassFile.FieldType), [])
theorem i_Mo_take : qk_isM m_Mo_take := ⟨Or.inl ⟨rfl, (lw_i5 _ (List.mem_of_getElem? (i := 54) rfl))⟩, rfl, ic_Mo.1, ic_Mo.2, Nat.le_of_ble_eq_true rfl⟩
def m_Mo_least : qk_M := (⟨"QuakeLinkModel", "least", "(IIII)I"⟩, prog_13_method_7_code, 8, (Option.some Jvm.ClassFile.FieldType.int), [])
theorem i_Mo_least : qk_isM m_Mo_least := ⟨Or.inl ⟨rfl, (lw_i5 _ (List.mem_of_getElem? (i := 58) rfl))⟩, rfl, ic_Mo.1, ic_Mo.2, Nat.le_of_ble_eq_true rfl⟩
def m_Mo_difference : qk_M := (⟨"QuakeLinkModel", "difference", "(III)I"⟩, prog_13_method_5_code, 6, (Option.some Jvm.ClassFile.FieldType.int), [])
theorem i_Mo_difference : qk_isM m_Mo_difference := ⟨Or.inl ⟨rfl, (lw_i5 _ (List.mem_of_getElem? (i := 62) rfl))⟩, rfl, ic_Mo.1, ic_Mo.2, Nat.le_of_ble_eq_true rfl⟩
def m_Mo_widthOf : qk_M := (⟨"QuakeLinkModel", "widthOf", "(I)I"⟩, prog_13_method_4_code, 1, (Option.some Jvm.ClassFile.FieldType.int), [])
theorem i_Mo_widthOf : qk_isM m_Mo_widthOf := ⟨Or.inl ⟨rfl, (lw_i5 _ (List.mem_of_getElem? (i := 65) rfl))⟩, rfl, ic_Mo.1, ic_Mo.2, Nat.le_of_ble_eq_true rfl⟩
def m_Mo_fits : qk_M := (⟨"QuakeLinkModel", "fits", "(II)Z"⟩, prog_13_method_6_code, 2, (Option.some Jvm.ClassFile.FieldType.boolean), [])
theorem i_Mo_fits : qk_isM m_Mo_fits := ⟨Or.inl ⟨rfl, (lw_i5 _ (List.mem_of_getElem? (i := 68) rfl))⟩, rfl, ic_Mo.1, ic_Mo.2, Nat.le_of_ble_eq_true rfl⟩
def m_Mo_sizeOf : qk_M := (⟨"QuakeLinkModel", "sizeOf", "(IIII)I"⟩, prog_13_method_8_code, 7, (Option.some Jvm.ClassFile.FieldType.int), [])
theorem i_Mo_sizeOf : qk_isM m_Mo_sizeOf := ⟨Or.inl ⟨rfl, (lw_i5 _ (List.mem_of_getElem? (i := 72) rfl))⟩, rfl, ic_Mo.1, ic_Mo.2, Nat.le_of_ble_eq_true rfl⟩
def m_Mo_close : qk_M := (⟨"QuakeLinkModel", "close", "(I)V"⟩, prog_13_method_9_code, 4, (Option.none : Option Jvm.ClassFile.FieldType), [])
theorem i_Mo_close : qk_isM m_Mo_close := ⟨Or.inl ⟨rfl, (lw_i5 _ (List.mem_of_getElem? (i := 76) rfl))⟩, rfl, ic_Mo.1, ic_Mo.2, Nat.le_of_ble_eq_true rfl⟩
def m_Mo_ringFirst : qk_M := (⟨"QuakeLinkModel", "ringFirst", "(I)I"⟩, prog_13_method_10_code, 5, (Option.some Jvm.ClassFile.FieldType.int), [])
theorem i_Mo_ringFirst : qk_isM m_Mo_ringFirst := ⟨Or.inl ⟨rfl, (lw_i5 _ (List.mem_of_getElem? (i := 80) rfl))⟩, rfl, ic_Mo.1, ic_Mo.2, Nat.le_of_ble_eq_true rfl⟩
def m_Mo_samples : qk_M := (⟨"QuakeLinkModel", "samples", "(IIIII)I"⟩, prog_13_method_14_code, 10, (Option.some Jvm.ClassFile.FieldType.int), [])
theorem i_Mo_samples : qk_isM m_Mo_samples := ⟨Or.inl ⟨rfl, (lw_i5 _ (List.mem_of_getElem? (i := 84) rfl))⟩, rfl, ic_Mo.1, ic_Mo.2, Nat.le_of_ble_eq_true rfl⟩
def m_Mo_quality : qk_M := (⟨"QuakeLinkModel", "quality", "(I)V"⟩, prog_13_method_15_code, 2, (Option.none : Option Jvm.ClassFile.FieldType), [])
theorem i_Mo_quality : qk_isM m_Mo_quality := ⟨Or.inl ⟨rfl, (lw_i5 _ (List.mem_of_getElem? (i := 88) rfl))⟩, rfl, ic_Mo.1, ic_Mo.2, Nat.le_of_ble_eq_true rfl⟩
def m_Mo_flush : qk_M := (⟨"QuakeLinkModel", "flush", "(I)I"⟩, prog_13_method_16_code, 3, (Option.some Jvm.ClassFile.FieldType.int), [])
theorem i_Mo_flush : qk_isM m_Mo_flush := ⟨Or.inl ⟨rfl, (lw_i5 _ (List.mem_of_getElem? (i := 92) rfl))⟩, rfl, ic_Mo.1, ic_Mo.2, Nat.le_of_ble_eq_true rfl⟩
def m_Mo_turn : qk_M := (⟨"QuakeLinkModel", "turn", "()I"⟩, prog_13_method_25_code, 6, (Option.some Jvm.ClassFile.FieldType.int), [])
theorem i_Mo_turn : qk_isM m_Mo_turn := ⟨Or.inl ⟨rfl, (lw_i5 _ (List.mem_of_getElem? (i := 96) rfl))⟩, rfl, ic_Mo.1, ic_Mo.2, Nat.le_of_ble_eq_true rfl⟩
def m_Mo_leastAsked : qk_M := (⟨"QuakeLinkModel", "leastAsked", "(I)I"⟩, prog_13_method_23_code, 3, (Option.some Jvm.ClassFile.FieldType.int), [])
theorem i_Mo_leastAsked : qk_isM m_Mo_leastAsked := ⟨Or.inl ⟨rfl, (lw_i5 _ (List.mem_of_getElem? (i := 100) rfl))⟩, rfl, ic_Mo.1, ic_Mo.2, Nat.le_of_ble_eq_true rfl⟩
def m_Mo_send : qk_M := (⟨"QuakeLinkModel", "send", "(I)I"⟩, prog_13_method_21_code, 9, (Option.some Jvm.ClassFile.FieldType.int), [])
theorem i_Mo_send : qk_isM m_Mo_send := ⟨Or.inl ⟨rfl, (lw_i5 _ (List.mem_of_getElem? (i := 104) rfl))⟩, rfl, ic_Mo.1, ic_Mo.2, Nat.le_of_ble_eq_true rfl⟩
def m_Mo_begin : qk_M := (⟨"QuakeLinkModel", "begin", "()V"⟩, prog_13_method_17_code, 2, (Option.none : Option Jvm.ClassFile.FieldType), [])
theorem i_Mo_begin : qk_isM m_Mo_begin := ⟨Or.inl ⟨rfl, (lw_i5 _ (List.mem_of_getElem? (i := 108) rfl))⟩, rfl, ic_Mo.1, ic_Mo.2, Nat.le_of_ble_eq_true rfl⟩
def m_Mo_put : qk_M := (⟨"QuakeLinkModel", "put", "(II)V"⟩, prog_13_method_18_code, 5, (Option.none : Option Jvm.ClassFile.FieldType), [])
theorem i_Mo_put : qk_isM m_Mo_put := ⟨Or.inl ⟨rfl, (lw_i5 _ (List.mem_of_getElem? (i := 112) rfl))⟩, rfl, ic_Mo.1, ic_Mo.2, Nat.le_of_ble_eq_true rfl⟩
def m_Mo_oldest : qk_M := (⟨"QuakeLinkModel", "oldest", "(I)I"⟩, prog_13_method_11_code, 3, (Option.some Jvm.ClassFile.FieldType.int), [])
theorem i_Mo_oldest : qk_isM m_Mo_oldest := ⟨Or.inl ⟨rfl, (lw_i5 _ (List.mem_of_getElem? (i := 116) rfl))⟩, rfl, ic_Mo.1, ic_Mo.2, Nat.le_of_ble_eq_true rfl⟩
def m_Mo_end : qk_M := (⟨"QuakeLinkModel", "end", "()I"⟩, prog_13_method_20_code, 1, (Option.some Jvm.ClassFile.FieldType.int), [])
theorem i_Mo_end : qk_isM m_Mo_end := ⟨Or.inl ⟨rfl, (lw_i5 _ (List.mem_of_getElem? (i := 120) rfl))⟩, rfl, ic_Mo.1, ic_Mo.2, Nat.le_of_ble_eq_true rfl⟩
def m_Mo_check : qk_M := (⟨"QuakeLinkModel", "check", "(II)I"⟩, prog_13_method_19_code, 7, (Option.some Jvm.ClassFile.FieldType.int), [])
theorem i_Mo_check : qk_isM m_Mo_check := ⟨Or.inl ⟨rfl, (lw_i5 _ (List.mem_of_getElem? (i := 124) rfl))⟩, rfl, ic_Mo.1, ic_Mo.2, Nat.le_of_ble_eq_true rfl⟩
def m_Mo_unask : qk_M := (⟨"QuakeLinkModel", "unask", "(III)V"⟩, prog_13_method_24_code, 5, (Option.none : Option Jvm.ClassFile.FieldType), [])
theorem i_Mo_unask : qk_isM m_Mo_unask := ⟨Or.inl ⟨rfl, (lw_i5 _ (List.mem_of_getElem? (i := 129) rfl))⟩, rfl, ic_Mo.1, ic_Mo.2, Nat.le_of_ble_eq_true rfl⟩
def m_Mo_sendEmpty : qk_M := (⟨"QuakeLinkModel", "sendEmpty", "(I)I"⟩, prog_13_method_22_code, 2, (Option.some Jvm.ClassFile.FieldType.int), [])
theorem i_Mo_sendEmpty : qk_isM m_Mo_sendEmpty := ⟨Or.inl ⟨rfl, (lw_i5 _ (List.mem_of_getElem? (i := 133) rfl))⟩, rfl, ic_Mo.1, ic_Mo.2, Nat.le_of_ble_eq_true rfl⟩
def m_Mo_lose : qk_M := (⟨"QuakeLinkModel", "lose", "(I)V"⟩, prog_13_method_27_code, 2, (Option.none : Option Jvm.ClassFile.FieldType), [])
theorem i_Mo_lose : qk_isM m_Mo_lose := ⟨Or.inl ⟨rfl, (lw_i5 _ (List.mem_of_getElem? (i := 137) rfl))⟩, rfl, ic_Mo.1, ic_Mo.2, Nat.le_of_ble_eq_true rfl⟩
def m_Mo_isSlot : qk_M := (⟨"QuakeLinkModel", "isSlot", "(I)Z"⟩, prog_13_method_26_code, 2, (Option.some Jvm.ClassFile.FieldType.boolean), [])
theorem i_Mo_isSlot : qk_isM m_Mo_isSlot := ⟨Or.inl ⟨rfl, (lw_i5 _ (List.mem_of_getElem? (i := 141) rfl))⟩, rfl, ic_Mo.1, ic_Mo.2, Nat.le_of_ble_eq_true rfl⟩
def m_Mo_length : qk_M := (⟨"QuakeLinkModel", "length", "(I)I"⟩, prog_13_method_28_code, 2, (Option.some Jvm.ClassFile.FieldType.int), [])
theorem i_Mo_length : qk_isM m_Mo_length := ⟨Or.inl ⟨rfl, (lw_i5 _ (List.mem_of_getElem? (i := 145) rfl))⟩, rfl, ic_Mo.1, ic_Mo.2, Nat.le_of_ble_eq_true rfl⟩
def m_Mo_air : qk_M := (⟨"QuakeLinkModel", "air", "(II)I"⟩, prog_13_method_30_code, 3, (Option.some Jvm.ClassFile.FieldType.int), [])
theorem i_Mo_air : qk_isM m_Mo_air := ⟨Or.inl ⟨rfl, (lw_i5 _ (List.mem_of_getElem? (i := 149) rfl))⟩, rfl, ic_Mo.1, ic_Mo.2, Nat.le_of_ble_eq_true rfl⟩
def m_Mo_isByte : qk_M := (⟨"QuakeLinkModel", "isByte", "(II)Z"⟩, prog_13_method_29_code, 3, (Option.some Jvm.ClassFile.FieldType.boolean), [])
theorem i_Mo_isByte : qk_isM m_Mo_isByte := ⟨Or.inl ⟨rfl, (lw_i5 _ (List.mem_of_getElem? (i := 153) rfl))⟩, rfl, ic_Mo.1, ic_Mo.2, Nat.le_of_ble_eq_true rfl⟩
def m_Mo_spoil : qk_M := (⟨"QuakeLinkModel", "spoil", "(III)V"⟩, prog_13_method_31_code, 4, (Option.none : Option Jvm.ClassFile.FieldType), [])
theorem i_Mo_spoil : qk_isM m_Mo_spoil := ⟨Or.inl ⟨rfl, (lw_i5 _ (List.mem_of_getElem? (i := 157) rfl))⟩, rfl, ic_Mo.1, ic_Mo.2, Nat.le_of_ble_eq_true rfl⟩
def m_Mo_mend : qk_M := (⟨"QuakeLinkModel", "mend", "(I)V"⟩, prog_13_method_32_code, 5, (Option.none : Option Jvm.ClassFile.FieldType), [])
theorem i_Mo_mend : qk_isM m_Mo_mend := ⟨Or.inl ⟨rfl, (lw_i5 _ (List.mem_of_getElem? (i := 161) rfl))⟩, rfl, ic_Mo.1, ic_Mo.2, Nat.le_of_ble_eq_true rfl⟩
def m_Mo_hear : qk_M := (⟨"QuakeLinkModel", "hear", "(I)I"⟩, prog_13_method_35_code, 10, (Option.some Jvm.ClassFile.FieldType.int), [])
theorem i_Mo_hear : qk_isM m_Mo_hear := ⟨Or.inl ⟨rfl, (lw_i5 _ (List.mem_of_getElem? (i := 165) rfl))⟩, rfl, ic_Mo.1, ic_Mo.2, Nat.le_of_ble_eq_true rfl⟩
def m_Mo_isChecked : qk_M := (⟨"QuakeLinkModel", "isChecked", "(I)Z"⟩, prog_13_method_34_code, 2, (Option.some Jvm.ClassFile.FieldType.boolean), [])
theorem i_Mo_isChecked : qk_isM m_Mo_isChecked := ⟨Or.inl ⟨rfl, (lw_i5 _ (List.mem_of_getElem? (i := 169) rfl))⟩, rfl, ic_Mo.1, ic_Mo.2, Nat.le_of_ble_eq_true rfl⟩
def m_Mo_get : qk_M := (⟨"QuakeLinkModel", "get", "(I)J"⟩, prog_13_method_33_code, 5, (Option.some Jvm.ClassFile.FieldType.long), [])
theorem i_Mo_get : qk_isM m_Mo_get := ⟨Or.inl ⟨rfl, (lw_i5 _ (List.mem_of_getElem? (i := 173) rfl))⟩, rfl, ic_Mo.1, ic_Mo.2, Nat.le_of_ble_eq_true rfl⟩
def m_Mo_deliver : qk_M := (⟨"QuakeLinkModel", "deliver", "(I)I"⟩, prog_13_method_38_code, 5, (Option.some Jvm.ClassFile.FieldType.int), [])
theorem i_Mo_deliver : qk_isM m_Mo_deliver := ⟨Or.inl ⟨rfl, (lw_i5 _ (List.mem_of_getElem? (i := 178) rfl))⟩, rfl, ic_Mo.1, ic_Mo.2, Nat.le_of_ble_eq_true rfl⟩
def m_Mo_isMessage : qk_M := (⟨"QuakeLinkModel", "isMessage", "()Z"⟩, prog_13_method_36_code, 4, (Option.some Jvm.ClassFile.FieldType.boolean), [])
theorem i_Mo_isMessage : qk_isM m_Mo_isMessage := ⟨Or.inl ⟨rfl, (lw_i5 _ (List.mem_of_getElem? (i := 182) rfl))⟩, rfl, ic_Mo.1, ic_Mo.2, Nat.le_of_ble_eq_true rfl⟩
def m_Mo_isRead : qk_M := (⟨"QuakeLinkModel", "isRead", "(II)Z"⟩, prog_13_method_37_code, 8, (Option.some Jvm.ClassFile.FieldType.boolean), [])
theorem i_Mo_isRead : qk_isM m_Mo_isRead := ⟨Or.inl ⟨rfl, (lw_i5 _ (List.mem_of_getElem? (i := 187) rfl))⟩, rfl, ic_Mo.1, ic_Mo.2, Nat.le_of_ble_eq_true rfl⟩
def m_Mo_has : qk_M := (⟨"QuakeLinkModel", "has", "(II)Z"⟩, prog_13_method_40_code, 3, (Option.some Jvm.ClassFile.FieldType.boolean), [])
theorem i_Mo_has : qk_isM m_Mo_has := ⟨Or.inl ⟨rfl, (lw_i5 _ (List.mem_of_getElem? (i := 191) rfl))⟩, rfl, ic_Mo.1, ic_Mo.2, Nat.le_of_ble_eq_true rfl⟩
def m_Mo_isHeard : qk_M := (⟨"QuakeLinkModel", "isHeard", "(II)Z"⟩, prog_13_method_39_code, 3, (Option.some Jvm.ClassFile.FieldType.boolean), [])
theorem i_Mo_isHeard : qk_isM m_Mo_isHeard := ⟨Or.inl ⟨rfl, (lw_i5 _ (List.mem_of_getElem? (i := 195) rfl))⟩, rfl, ic_Mo.1, ic_Mo.2, Nat.le_of_ble_eq_true rfl⟩
def m_Mo_at : qk_M := (⟨"QuakeLinkModel", "at", "(II)I"⟩, prog_13_method_41_code, 3, (Option.some Jvm.ClassFile.FieldType.int), [])
theorem i_Mo_at : qk_isM m_Mo_at := ⟨Or.inl ⟨rfl, (lw_i5 _ (List.mem_of_getElem? (i := 199) rfl))⟩, rfl, ic_Mo.1, ic_Mo.2, Nat.le_of_ble_eq_true rfl⟩
def m_Mo_qualityAt : qk_M := (⟨"QuakeLinkModel", "qualityAt", "(II)I"⟩, prog_13_method_42_code, 3, (Option.some Jvm.ClassFile.FieldType.int), [])
theorem i_Mo_qualityAt : qk_isM m_Mo_qualityAt := ⟨Or.inl ⟨rfl, (lw_i5 _ (List.mem_of_getElem? (i := 203) rfl))⟩, rfl, ic_Mo.1, ic_Mo.2, Nat.le_of_ble_eq_true rfl⟩
def m_Mo_gaps : qk_M := (⟨"QuakeLinkModel", "gaps", "(I)I"⟩, prog_13_method_44_code, 4, (Option.some Jvm.ClassFile.FieldType.int), [])
theorem i_Mo_gaps : qk_isM m_Mo_gaps := ⟨Or.inl ⟨rfl, (lw_i5 _ (List.mem_of_getElem? (i := 207) rfl))⟩, rfl, ic_Mo.1, ic_Mo.2, Nat.le_of_ble_eq_true rfl⟩
def m_Mo_isGap : qk_M := (⟨"QuakeLinkModel", "isGap", "(II)Z"⟩, prog_13_method_43_code, 5, (Option.some Jvm.ClassFile.FieldType.boolean), [])
theorem i_Mo_isGap : qk_isM m_Mo_isGap := ⟨Or.inl ⟨rfl, (lw_i5 _ (List.mem_of_getElem? (i := 211) rfl))⟩, rfl, ic_Mo.1, ic_Mo.2, Nat.le_of_ble_eq_true rfl⟩
def m_Mo_gap : qk_M := (⟨"QuakeLinkModel", "gap", "(IIZ)I"⟩, prog_13_method_45_code, 6, (Option.some Jvm.ClassFile.FieldType.int), [])
theorem i_Mo_gap : qk_isM m_Mo_gap := ⟨Or.inl ⟨rfl, (lw_i5 _ (List.mem_of_getElem? (i := 215) rfl))⟩, rfl, ic_Mo.1, ic_Mo.2, Nat.le_of_ble_eq_true rfl⟩
def m_Mo_ask : qk_M := (⟨"QuakeLinkModel", "ask", "()I"⟩, prog_13_method_46_code, 5, (Option.some Jvm.ClassFile.FieldType.int), [])
theorem i_Mo_ask : qk_isM m_Mo_ask := ⟨Or.inl ⟨rfl, (lw_i5 _ (List.mem_of_getElem? (i := 219) rfl))⟩, rfl, ic_Mo.1, ic_Mo.2, Nat.le_of_ble_eq_true rfl⟩
def m_Mo_count : qk_M := (⟨"QuakeLinkModel", "count", "(II)I"⟩, prog_13_method_47_code, 7, (Option.some Jvm.ClassFile.FieldType.int), [])
theorem i_Mo_count : qk_isM m_Mo_count := ⟨Or.inl ⟨rfl, (lw_i5 _ (List.mem_of_getElem? (i := 223) rfl))⟩, rfl, ic_Mo.1, ic_Mo.2, Nat.le_of_ble_eq_true rfl⟩
def m_Mo_total : qk_M := (⟨"QuakeLinkModel", "total", "(I)I"⟩, prog_13_method_48_code, 4, (Option.some Jvm.ClassFile.FieldType.int), [])
theorem i_Mo_total : qk_isM m_Mo_total := ⟨Or.inl ⟨rfl, (lw_i5 _ (List.mem_of_getElem? (i := 227) rfl))⟩, rfl, ic_Mo.1, ic_Mo.2, Nat.le_of_ble_eq_true rfl⟩
def m_La_law : qk_M := (⟨"QuakeLinkLaw", "law", "([I)Z"⟩, code, 7, (Option.some Jvm.ClassFile.FieldType.boolean), [])
