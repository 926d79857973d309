/-! ===== rules: plain instructions (by gen_rules.py) ===== -/
def qi_shl (x y : Int32) : Int32 := x <<< (y &&& 31)
def qi_shr (x y : Int32) : Int32 := x >>> (y &&& 31)
def qi_ushr (x y : Int32) : Int32 := (x.toUInt32 >>> (y.toUInt32 &&& Int32.toUInt32 31)).toInt32
def qi_rem (x y : Int32) : Int32 := x - x / y * y
def ql_shl (x : Int64) (y : Int32) : Int64 := x <<< (y.toInt64 &&& 63)
def ql_ushr (x : Int64) (y : Int32) : Int64 := (x.toUInt64 >>> (y.toInt64.toUInt64 &&& Int64.toUInt64 63)).toInt64
section Rules
variable {d : Nat} {M : qk_M} {pc : Nat} {L : List (Option Value)} {st : List Value} {w : qk_W} {nc ns : Nat} {Q : Option Value ⊕ Nat → qk_W → Nat → Nat → Prop}
theorem ev_of {pc' : Nat} {L' : List (Option Value)} {st' : List Value} (h : ∀ r w' kc ks, qk_S d M pc' L' st' w r w' kc ks → qk_S d M pc L st w r w' kc ks) (k : Ev d M pc' L' st' w nc ns Q) : Ev d M pc L st w nc ns Q := by
  obtain ⟨r, w', kc, ks, hq, hs⟩ := k
  exact ⟨r, w', kc, ks, hq, h r w' kc ks hs⟩
theorem qk_cons {v : Value} (h : qk_ok w v) (hs : ∀ x ∈ st, qk_ok w x) : ∀ x ∈ v :: st, qk_ok w x := List.forall_mem_cons.mpr ⟨h, hs⟩
theorem qk_tl {v : Value} (hs : ∀ x ∈ v :: st, qk_ok w x) : ∀ x ∈ st, qk_ok w x := (List.forall_mem_cons.mp hs).2
theorem qk_hd {v : Value} (hs : ∀ x ∈ v :: st, qk_ok w x) : qk_ok w v := (List.forall_mem_cons.mp hs).1
theorem qk_lg {ls : Array Slot} {ρ : Nat → Nat} {nL i : Nat} {v : Value} (h : lv_has ls nL ((qk_lp 0 L).map fun q => (q.1, qk_rv ρ q.2))) (hi : L[i]? = some (some v)) : ls[i]? = some (.val (qk_rv ρ v)) :=
  h.2.2 (i, qk_rv ρ v) (List.mem_map.mpr ⟨(i, v), qk_lp0.mpr hi, rfl⟩)
theorem qk_lo {i : Nat} {v : Value} (h : ∀ q ∈ qk_lp 0 L, qk_ok w q.2) (hi : L[i]? = some (some v)) : qk_ok w v := h (i, v) (qk_lp0.mpr hi)
def qk_c2 (L : List (Option Value)) (i : Nat) : Bool := match i with
  | 0 => true
  | j + 1 => match L[j]? with
    | some (some v) => v.category == 1
    | _ => true
theorem qk_sg {i j : Nat} {v u : Value} (h : (j, u) ∈ qk_lp 0 (L.set i (some v))) : (j = i ∧ u = v) ∨ (j ≠ i ∧ L[j]? = some (some u)) := by
  have h1 := qk_lp0.mp h
  rw [List.getElem?_set] at h1
  split at h1
  · split at h1
    · cases h1
      exact Or.inl ⟨by omega, rfl⟩
    · cases h1
  · exact Or.inr ⟨by omega, h1⟩
theorem qk_c2_ne {i j : Nat} {u : Value} (hc : qk_c2 L i = true) (hj : L[j]? = some (some u)) (h : j + 1 = i) : u.category = 1 := by
  subst h
  simp only [qk_c2, hj] at hc
  simpa using hc
theorem qk_sub {ls : Array Slot} {nL : Nat} {l l' : List (Nat × Value)} (h : lv_has ls nL l) (hs : ∀ q ∈ l', q ∈ l) : lv_has ls nL l' := ⟨h.1, h.2.1, fun q hq => h.2.2 q (hs q hq)⟩
theorem qk_so {i : Nat} {v : Value} (h : ∀ q ∈ qk_lp 0 L, qk_ok w q.2) (hv : qk_ok w v) : ∀ q ∈ qk_lp 0 (L.set i (some v)), qk_ok w q.2 := by
  rintro ⟨j, u⟩ hq
  rcases qk_sg hq with ⟨-, rfl⟩ | ⟨-, h2⟩
  · exact hv
  · exact h (j, u) (qk_lp0.mpr h2)
/-- what a store of one word leaves -/
theorem qk_s1 {ls : Array Slot} {ρ : Nat → Nat} {nL i : Nat} {v : Value} (hc : qk_c2 L i = true)
    (h : lv_has ls nL ((i, qk_rv ρ v) :: ((qk_lp 0 L).map fun q => (q.1, qk_rv ρ q.2)).filter (fun q => !(q.1 == i) && !(q.1 + 1 == i && q.2.category == 2)))) : lv_has ls nL ((qk_lp 0 (L.set i (some v))).map fun q => (q.1, qk_rv ρ q.2)) := by
  refine qk_sub h ?_
  intro q hq
  obtain ⟨⟨j, u⟩, hm, rfl⟩ := List.mem_map.mp hq
  rcases qk_sg hm with ⟨rfl, rfl⟩ | ⟨h1, h2⟩
  · exact List.mem_cons_self
  · refine List.mem_cons_of_mem _ (List.mem_filter.mpr ⟨List.mem_map.mpr ⟨(j, u), qk_lp0.mpr h2, rfl⟩, ?_⟩)
    by_cases h3 : j + 1 = i
    · simp [h1, qk_rv_cat, qk_c2_ne hc h2 h3]
    · simp [h1, h3]
/-- forget a local variable -/
theorem qk_dg {i j : Nat} {u : Value} (h : (j, u) ∈ qk_lp 0 (L.set i none)) : j ≠ i ∧ L[j]? = some (some u) := by
  have h1 := qk_lp0.mp h
  rw [List.getElem?_set] at h1
  split at h1
  · split at h1 <;> cases h1
  · exact ⟨by omega, h1⟩
theorem qk_s2 {ls : Array Slot} {ρ : Nat → Nat} {nL i : Nat} {v : Value} (hc : qk_c2 L i = true)
    (h : lv_has ls nL ((i, qk_rv ρ v) :: ((qk_lp 0 L).map fun q => (q.1, qk_rv ρ q.2)).filter (fun q => !(q.1 == i) && (!(q.1 == i + 1) && !(q.1 + 1 == i && q.2.category == 2))))) : lv_has ls nL ((qk_lp 0 ((L.set (i + 1) none).set i (some v))).map fun q => (q.1, qk_rv ρ q.2)) := by
  refine qk_sub h ?_
  intro q hq
  obtain ⟨⟨j, u⟩, hm, rfl⟩ := List.mem_map.mp hq
  rcases qk_sg hm with ⟨rfl, rfl⟩ | ⟨h1, h2⟩
  · exact List.mem_cons_self
  · obtain ⟨h4, h5⟩ := qk_dg (qk_lp0.mpr h2)
    refine List.mem_cons_of_mem _ (List.mem_filter.mpr ⟨List.mem_map.mpr ⟨(j, u), qk_lp0.mpr h5, rfl⟩, ?_⟩)
    by_cases h3 : j + 1 = i
    · simp [h1, h4, qk_rv_cat, qk_c2_ne hc h5 h3]
    · simp [h1, h3, h4]
theorem qk_so2 {i : Nat} {v : Value} (h : ∀ q ∈ qk_lp 0 L, qk_ok w q.2) (hv : qk_ok w v) : ∀ q ∈ qk_lp 0 ((L.set (i + 1) none).set i (some v)), qk_ok w q.2 := by
  rintro ⟨j, u⟩ hq
  rcases qk_sg hq with ⟨-, rfl⟩ | ⟨-, h2⟩
  · exact hv
  · exact h (j, u) (qk_lp0.mpr (qk_dg (qk_lp0.mpr h2)).2)

theorem ev_iadd {x y : Int32} (hd : decode M.2.1 pc = .ok (.iadd, 1))  (k : Ev d M (pc + 1) L (.int (x + y) :: st) w nc ns Q) : Ev d M pc L (.int y :: .int x :: st) w nc ns Q :=
  ev_of (fun r w' kc ks hs p l e R s m args below meth c H locs cells slots G H0 ro ρ ls X hR hL hst hl hlo h1 h2 h3 h4 => lv_iadd X.1.1 X.1.2.1  hd  (hs p l e R s m args below meth c H locs cells slots G H0 ro ρ ls X hR hL (qk_cons (v := .int (x + y)) trivial (qk_tl (qk_tl hst))) hl hlo h1 h2 h3 h4)) k
theorem ev_isub {x y : Int32} (hd : decode M.2.1 pc = .ok (.isub, 1))  (k : Ev d M (pc + 1) L (.int (x - y) :: st) w nc ns Q) : Ev d M pc L (.int y :: .int x :: st) w nc ns Q :=
  ev_of (fun r w' kc ks hs p l e R s m args below meth c H locs cells slots G H0 ro ρ ls X hR hL hst hl hlo h1 h2 h3 h4 => lv_isub X.1.1 X.1.2.1  hd  (hs p l e R s m args below meth c H locs cells slots G H0 ro ρ ls X hR hL (qk_cons (v := .int (x - y)) trivial (qk_tl (qk_tl hst))) hl hlo h1 h2 h3 h4)) k
theorem ev_imul {x y : Int32} (hd : decode M.2.1 pc = .ok (.imul, 1))  (k : Ev d M (pc + 1) L (.int (x * y) :: st) w nc ns Q) : Ev d M pc L (.int y :: .int x :: st) w nc ns Q :=
  ev_of (fun r w' kc ks hs p l e R s m args below meth c H locs cells slots G H0 ro ρ ls X hR hL hst hl hlo h1 h2 h3 h4 => lv_imul X.1.1 X.1.2.1  hd  (hs p l e R s m args below meth c H locs cells slots G H0 ro ρ ls X hR hL (qk_cons (v := .int (x * y)) trivial (qk_tl (qk_tl hst))) hl hlo h1 h2 h3 h4)) k
theorem ev_iand {x y : Int32} (hd : decode M.2.1 pc = .ok (.iand, 1))  (k : Ev d M (pc + 1) L (.int (x &&& y) :: st) w nc ns Q) : Ev d M pc L (.int y :: .int x :: st) w nc ns Q :=
  ev_of (fun r w' kc ks hs p l e R s m args below meth c H locs cells slots G H0 ro ρ ls X hR hL hst hl hlo h1 h2 h3 h4 => lv_iand X.1.1 X.1.2.1  hd  (hs p l e R s m args below meth c H locs cells slots G H0 ro ρ ls X hR hL (qk_cons (v := .int (x &&& y)) trivial (qk_tl (qk_tl hst))) hl hlo h1 h2 h3 h4)) k
theorem ev_ior {x y : Int32} (hd : decode M.2.1 pc = .ok (.ior, 1))  (k : Ev d M (pc + 1) L (.int (x ||| y) :: st) w nc ns Q) : Ev d M pc L (.int y :: .int x :: st) w nc ns Q :=
  ev_of (fun r w' kc ks hs p l e R s m args below meth c H locs cells slots G H0 ro ρ ls X hR hL hst hl hlo h1 h2 h3 h4 => lv_ior X.1.1 X.1.2.1  hd  (hs p l e R s m args below meth c H locs cells slots G H0 ro ρ ls X hR hL (qk_cons (v := .int (x ||| y)) trivial (qk_tl (qk_tl hst))) hl hlo h1 h2 h3 h4)) k
theorem ev_ixor {x y : Int32} (hd : decode M.2.1 pc = .ok (.ixor, 1))  (k : Ev d M (pc + 1) L (.int (x ^^^ y) :: st) w nc ns Q) : Ev d M pc L (.int y :: .int x :: st) w nc ns Q :=
  ev_of (fun r w' kc ks hs p l e R s m args below meth c H locs cells slots G H0 ro ρ ls X hR hL hst hl hlo h1 h2 h3 h4 => lv_ixor X.1.1 X.1.2.1  hd  (hs p l e R s m args below meth c H locs cells slots G H0 ro ρ ls X hR hL (qk_cons (v := .int (x ^^^ y)) trivial (qk_tl (qk_tl hst))) hl hlo h1 h2 h3 h4)) k
theorem ev_ishl {x y : Int32} (hd : decode M.2.1 pc = .ok (.ishl, 1))  (k : Ev d M (pc + 1) L (.int (qi_shl x y) :: st) w nc ns Q) : Ev d M pc L (.int y :: .int x :: st) w nc ns Q :=
  ev_of (fun r w' kc ks hs p l e R s m args below meth c H locs cells slots G H0 ro ρ ls X hR hL hst hl hlo h1 h2 h3 h4 => lv_ishl X.1.1 X.1.2.1  hd  (hs p l e R s m args below meth c H locs cells slots G H0 ro ρ ls X hR hL (qk_cons (v := .int (qi_shl x y)) trivial (qk_tl (qk_tl hst))) hl hlo h1 h2 h3 h4)) k
theorem ev_ishr {x y : Int32} (hd : decode M.2.1 pc = .ok (.ishr, 1))  (k : Ev d M (pc + 1) L (.int (qi_shr x y) :: st) w nc ns Q) : Ev d M pc L (.int y :: .int x :: st) w nc ns Q :=
  ev_of (fun r w' kc ks hs p l e R s m args below meth c H locs cells slots G H0 ro ρ ls X hR hL hst hl hlo h1 h2 h3 h4 => lv_ishr X.1.1 X.1.2.1  hd  (hs p l e R s m args below meth c H locs cells slots G H0 ro ρ ls X hR hL (qk_cons (v := .int (qi_shr x y)) trivial (qk_tl (qk_tl hst))) hl hlo h1 h2 h3 h4)) k
theorem ev_idiv {x y : Int32} (hd : decode M.2.1 pc = .ok (.idiv, 1)) (hne : ¬ y = 0) (k : Ev d M (pc + 1) L (.int (x / y) :: st) w nc ns Q) : Ev d M pc L (.int y :: .int x :: st) w nc ns Q :=
  ev_of (fun r w' kc ks hs p l e R s m args below meth c H locs cells slots G H0 ro ρ ls X hR hL hst hl hlo h1 h2 h3 h4 => lv_idiv X.1.1 X.1.2.1  hd hne (hs p l e R s m args below meth c H locs cells slots G H0 ro ρ ls X hR hL (qk_cons (v := .int (x / y)) trivial (qk_tl (qk_tl hst))) hl hlo h1 h2 h3 h4)) k
theorem ev_irem {x y : Int32} (hd : decode M.2.1 pc = .ok (.irem, 1)) (hne : ¬ y = 0) (k : Ev d M (pc + 1) L (.int (qi_rem x y) :: st) w nc ns Q) : Ev d M pc L (.int y :: .int x :: st) w nc ns Q :=
  ev_of (fun r w' kc ks hs p l e R s m args below meth c H locs cells slots G H0 ro ρ ls X hR hL hst hl hlo h1 h2 h3 h4 => lv_irem X.1.1 X.1.2.1  hd hne (hs p l e R s m args below meth c H locs cells slots G H0 ro ρ ls X hR hL (qk_cons (v := .int (qi_rem x y)) trivial (qk_tl (qk_tl hst))) hl hlo h1 h2 h3 h4)) k
theorem ev_iushr {x y : Int32} (hd : decode M.2.1 pc = .ok (.iushr, 1))  (k : Ev d M (pc + 1) L (.int (qi_ushr x y) :: st) w nc ns Q) : Ev d M pc L (.int y :: .int x :: st) w nc ns Q :=
  ev_of (fun r w' kc ks hs p l e R s m args below meth c H locs cells slots G H0 ro ρ ls X hR hL hst hl hlo h1 h2 h3 h4 => lv_iushr X.1.1 X.1.2.1  hd rfl (hs p l e R s m args below meth c H locs cells slots G H0 ro ρ ls X hR hL (qk_cons (v := .int (qi_ushr x y)) trivial (qk_tl (qk_tl hst))) hl hlo h1 h2 h3 h4)) k
theorem ev_ladd {x y : Int64} (hd : decode M.2.1 pc = .ok (.ladd, 1))  (k : Ev d M (pc + 1) L (.long (x + y) :: st) w nc ns Q) : Ev d M pc L (.long y :: .long x :: st) w nc ns Q :=
  ev_of (fun r w' kc ks hs p l e R s m args below meth c H locs cells slots G H0 ro ρ ls X hR hL hst hl hlo h1 h2 h3 h4 => lv_ladd X.1.1 X.1.2.1  hd  (hs p l e R s m args below meth c H locs cells slots G H0 ro ρ ls X hR hL (qk_cons (v := .long (x + y)) trivial (qk_tl (qk_tl hst))) hl hlo h1 h2 h3 h4)) k
theorem ev_lsub {x y : Int64} (hd : decode M.2.1 pc = .ok (.lsub, 1))  (k : Ev d M (pc + 1) L (.long (x - y) :: st) w nc ns Q) : Ev d M pc L (.long y :: .long x :: st) w nc ns Q :=
  ev_of (fun r w' kc ks hs p l e R s m args below meth c H locs cells slots G H0 ro ρ ls X hR hL hst hl hlo h1 h2 h3 h4 => lv_lsub X.1.1 X.1.2.1  hd  (hs p l e R s m args below meth c H locs cells slots G H0 ro ρ ls X hR hL (qk_cons (v := .long (x - y)) trivial (qk_tl (qk_tl hst))) hl hlo h1 h2 h3 h4)) k
theorem ev_lmul {x y : Int64} (hd : decode M.2.1 pc = .ok (.lmul, 1))  (k : Ev d M (pc + 1) L (.long (x * y) :: st) w nc ns Q) : Ev d M pc L (.long y :: .long x :: st) w nc ns Q :=
  ev_of (fun r w' kc ks hs p l e R s m args below meth c H locs cells slots G H0 ro ρ ls X hR hL hst hl hlo h1 h2 h3 h4 => lv_lmul X.1.1 X.1.2.1  hd  (hs p l e R s m args below meth c H locs cells slots G H0 ro ρ ls X hR hL (qk_cons (v := .long (x * y)) trivial (qk_tl (qk_tl hst))) hl hlo h1 h2 h3 h4)) k
theorem ev_land {x y : Int64} (hd : decode M.2.1 pc = .ok (.land, 1))  (k : Ev d M (pc + 1) L (.long (x &&& y) :: st) w nc ns Q) : Ev d M pc L (.long y :: .long x :: st) w nc ns Q :=
  ev_of (fun r w' kc ks hs p l e R s m args below meth c H locs cells slots G H0 ro ρ ls X hR hL hst hl hlo h1 h2 h3 h4 => lv_land X.1.1 X.1.2.1  hd  (hs p l e R s m args below meth c H locs cells slots G H0 ro ρ ls X hR hL (qk_cons (v := .long (x &&& y)) trivial (qk_tl (qk_tl hst))) hl hlo h1 h2 h3 h4)) k
theorem ev_lor {x y : Int64} (hd : decode M.2.1 pc = .ok (.lor, 1))  (k : Ev d M (pc + 1) L (.long (x ||| y) :: st) w nc ns Q) : Ev d M pc L (.long y :: .long x :: st) w nc ns Q :=
  ev_of (fun r w' kc ks hs p l e R s m args below meth c H locs cells slots G H0 ro ρ ls X hR hL hst hl hlo h1 h2 h3 h4 => lv_lor X.1.1 X.1.2.1  hd  (hs p l e R s m args below meth c H locs cells slots G H0 ro ρ ls X hR hL (qk_cons (v := .long (x ||| y)) trivial (qk_tl (qk_tl hst))) hl hlo h1 h2 h3 h4)) k
theorem ev_lcmp {x y : Int64} (hd : decode M.2.1 pc = .ok (.lcmp, 1))  (k : Ev d M (pc + 1) L (.int (lg_cmp x y) :: st) w nc ns Q) : Ev d M pc L (.long y :: .long x :: st) w nc ns Q :=
  ev_of (fun r w' kc ks hs p l e R s m args below meth c H locs cells slots G H0 ro ρ ls X hR hL hst hl hlo h1 h2 h3 h4 => W.lcmp X.1.1 X.1.2.1  hd  (hs p l e R s m args below meth c H locs cells slots G H0 ro ρ ls X hR hL (qk_cons (v := .int (lg_cmp x y)) trivial (qk_tl (qk_tl hst))) hl hlo h1 h2 h3 h4)) k
theorem ev_lshl {x : Int64} {y : Int32} (hd : decode M.2.1 pc = .ok (.lshl, 1))  (k : Ev d M (pc + 1) L (.long (ql_shl x y) :: st) w nc ns Q) : Ev d M pc L (.int y :: .long x :: st) w nc ns Q :=
  ev_of (fun r w' kc ks hs p l e R s m args below meth c H locs cells slots G H0 ro ρ ls X hR hL hst hl hlo h1 h2 h3 h4 => lv_lshl X.1.1 X.1.2.1  hd rfl (hs p l e R s m args below meth c H locs cells slots G H0 ro ρ ls X hR hL (qk_cons (v := .long (ql_shl x y)) trivial (qk_tl (qk_tl hst))) hl hlo h1 h2 h3 h4)) k
theorem ev_lushr {x : Int64} {y : Int32} (hd : decode M.2.1 pc = .ok (.lushr, 1))  (k : Ev d M (pc + 1) L (.long (ql_ushr x y) :: st) w nc ns Q) : Ev d M pc L (.int y :: .long x :: st) w nc ns Q :=
  ev_of (fun r w' kc ks hs p l e R s m args below meth c H locs cells slots G H0 ro ρ ls X hR hL hst hl hlo h1 h2 h3 h4 => lv_lushr X.1.1 X.1.2.1  hd rfl (hs p l e R s m args below meth c H locs cells slots G H0 ro ρ ls X hR hL (qk_cons (v := .long (ql_ushr x y)) trivial (qk_tl (qk_tl hst))) hl hlo h1 h2 h3 h4)) k
theorem ev_ineg {x : Int32} (hd : decode M.2.1 pc = .ok (.ineg, 1))  (k : Ev d M (pc + 1) L (.int (-x) :: st) w nc ns Q) : Ev d M pc L (.int x :: st) w nc ns Q :=
  ev_of (fun r w' kc ks hs p l e R s m args below meth c H locs cells slots G H0 ro ρ ls X hR hL hst hl hlo h1 h2 h3 h4 => lv_ineg X.1.1 X.1.2.1  hd  (hs p l e R s m args below meth c H locs cells slots G H0 ro ρ ls X hR hL (qk_cons (v := .int (-x)) trivial (qk_tl hst)) hl hlo h1 h2 h3 h4)) k
theorem ev_i2l {x : Int32} (hd : decode M.2.1 pc = .ok (.i2l, 1))  (k : Ev d M (pc + 1) L (.long x.toInt64 :: st) w nc ns Q) : Ev d M pc L (.int x :: st) w nc ns Q :=
  ev_of (fun r w' kc ks hs p l e R s m args below meth c H locs cells slots G H0 ro ρ ls X hR hL hst hl hlo h1 h2 h3 h4 => lv_i2l X.1.1 X.1.2.1  hd rfl (hs p l e R s m args below meth c H locs cells slots G H0 ro ρ ls X hR hL (qk_cons (v := .long x.toInt64) trivial (qk_tl hst)) hl hlo h1 h2 h3 h4)) k
theorem ev_l2i {x : Int64} (hd : decode M.2.1 pc = .ok (.l2i, 1))  (k : Ev d M (pc + 1) L (.int x.toInt32 :: st) w nc ns Q) : Ev d M pc L (.long x :: st) w nc ns Q :=
  ev_of (fun r w' kc ks hs p l e R s m args below meth c H locs cells slots G H0 ro ρ ls X hR hL hst hl hlo h1 h2 h3 h4 => lv_l2i X.1.1 X.1.2.1  hd rfl (hs p l e R s m args below meth c H locs cells slots G H0 ro ρ ls X hR hL (qk_cons (v := .int x.toInt32) trivial (qk_tl hst)) hl hlo h1 h2 h3 h4)) k
theorem ev_i2b {x : Int32} (hd : decode M.2.1 pc = .ok (.i2b, 1))  (k : Ev d M (pc + 1) L (.int x.toInt8.toInt32 :: st) w nc ns Q) : Ev d M pc L (.int x :: st) w nc ns Q :=
  ev_of (fun r w' kc ks hs p l e R s m args below meth c H locs cells slots G H0 ro ρ ls X hR hL hst hl hlo h1 h2 h3 h4 => lv_i2b X.1.1 X.1.2.1  hd rfl (hs p l e R s m args below meth c H locs cells slots G H0 ro ρ ls X hR hL (qk_cons (v := .int x.toInt8.toInt32) trivial (qk_tl hst)) hl hlo h1 h2 h3 h4)) k
theorem ev_iconst {n : Int} (v : Int32) (hd : decode M.2.1 pc = .ok (.iconst n, 1)) (hv : Int32.ofInt n = v) (k : Ev d M (pc + 1) L (.int v :: st) w nc ns Q) : Ev d M pc L (st) w nc ns Q :=
  ev_of (fun r w' kc ks hs p l e R s m args below meth c H locs cells slots G H0 ro ρ ls X hR hL hst hl hlo h1 h2 h3 h4 => lv_iconst X.1.1 X.1.2.1  hd hv (hs p l e R s m args below meth c H locs cells slots G H0 ro ρ ls X hR hL (qk_cons (v := .int v) trivial hst) hl hlo h1 h2 h3 h4)) k
theorem ev_bipush {n : Int} (v : Int32) (hd : decode M.2.1 pc = .ok (.bipush n, 2)) (hv : (Int8.ofInt n).toInt32 = v) (k : Ev d M (pc + 2) L (.int v :: st) w nc ns Q) : Ev d M pc L (st) w nc ns Q :=
  ev_of (fun r w' kc ks hs p l e R s m args below meth c H locs cells slots G H0 ro ρ ls X hR hL hst hl hlo h1 h2 h3 h4 => lv_bipush X.1.1 X.1.2.1  hd hv (hs p l e R s m args below meth c H locs cells slots G H0 ro ρ ls X hR hL (qk_cons (v := .int v) trivial hst) hl hlo h1 h2 h3 h4)) k
theorem ev_sipush {n : Int} (v : Int32) (hd : decode M.2.1 pc = .ok (.sipush n, 3)) (hv : (Int16.ofInt n).toInt32 = v) (k : Ev d M (pc + 3) L (.int v :: st) w nc ns Q) : Ev d M pc L (st) w nc ns Q :=
  ev_of (fun r w' kc ks hs p l e R s m args below meth c H locs cells slots G H0 ro ρ ls X hR hL hst hl hlo h1 h2 h3 h4 => lv_sipush X.1.1 X.1.2.1  hd hv (hs p l e R s m args below meth c H locs cells slots G H0 ro ρ ls X hR hL (qk_cons (v := .int v) trivial hst) hl hlo h1 h2 h3 h4)) k
theorem ev_lconst {n : Fin 2} (v : Int64) (hd : decode M.2.1 pc = .ok (.lconst n, 1)) (hv : Int64.ofNat (n : Nat) = v) (k : Ev d M (pc + 1) L (.long v :: st) w nc ns Q) : Ev d M pc L (st) w nc ns Q :=
  ev_of (fun r w' kc ks hs p l e R s m args below meth c H locs cells slots G H0 ro ρ ls X hR hL hst hl hlo h1 h2 h3 h4 => lv_lconst X.1.1 X.1.2.1  hd hv (hs p l e R s m args below meth c H locs cells slots G H0 ro ρ ls X hR hL (qk_cons (v := .long v) trivial hst) hl hlo h1 h2 h3 h4)) k
theorem ev_null  (hd : decode M.2.1 pc = .ok (.aconst_null, 1))  (k : Ev d M (pc + 1) L (.null :: st) w nc ns Q) : Ev d M pc L (st) w nc ns Q :=
  ev_of (fun r w' kc ks hs p l e R s m args below meth c H locs cells slots G H0 ro ρ ls X hR hL hst hl hlo h1 h2 h3 h4 => lv_null X.1.1 X.1.2.1  hd  (hs p l e R s m args below meth c H locs cells slots G H0 ro ρ ls X hR hL (qk_cons (v := .null) trivial hst) hl hlo h1 h2 h3 h4)) k
theorem ev_iload {i : Nat} {x : Int32} (hd : decode M.2.1 pc = .ok (.iload i, 2)) (hl0 : L[i]? = some (some (.int x))) (k : Ev d M (pc + 2) L (.int x :: st) w nc ns Q) : Ev d M pc L (st) w nc ns Q :=
  ev_of (fun r w' kc ks hs p l e R s m args below meth c H locs cells slots G H0 ro ρ ls X hR hL hst hl hlo h1 h2 h3 h4 => lv_iload X.1.1 X.1.2.1  hd (qk_lg hl hl0) (hs p l e R s m args below meth c H locs cells slots G H0 ro ρ ls X hR hL (qk_cons (v := .int x) trivial hst) hl hlo h1 h2 h3 h4)) k
theorem ev_iload_n {i : Fin 4} {x : Int32} (hd : decode M.2.1 pc = .ok (.iload_n i, 1)) (hl0 : L[(i : Nat)]? = some (some (.int x))) (k : Ev d M (pc + 1) L (.int x :: st) w nc ns Q) : Ev d M pc L (st) w nc ns Q :=
  ev_of (fun r w' kc ks hs p l e R s m args below meth c H locs cells slots G H0 ro ρ ls X hR hL hst hl hlo h1 h2 h3 h4 => lv_iload_n X.1.1 X.1.2.1  hd rfl (qk_lg hl hl0) (hs p l e R s m args below meth c H locs cells slots G H0 ro ρ ls X hR hL (qk_cons (v := .int x) trivial hst) hl hlo h1 h2 h3 h4)) k
theorem ev_lload {i : Nat} {x : Int64} (hd : decode M.2.1 pc = .ok (.lload i, 2)) (hl0 : L[i]? = some (some (.long x))) (k : Ev d M (pc + 2) L (.long x :: st) w nc ns Q) : Ev d M pc L (st) w nc ns Q :=
  ev_of (fun r w' kc ks hs p l e R s m args below meth c H locs cells slots G H0 ro ρ ls X hR hL hst hl hlo h1 h2 h3 h4 => lv_lload X.1.1 X.1.2.1  hd (qk_lg hl hl0) (hs p l e R s m args below meth c H locs cells slots G H0 ro ρ ls X hR hL (qk_cons (v := .long x) trivial hst) hl hlo h1 h2 h3 h4)) k
theorem ev_lload_n {i : Fin 4} {x : Int64} (hd : decode M.2.1 pc = .ok (.lload_n i, 1)) (hl0 : L[(i : Nat)]? = some (some (.long x))) (k : Ev d M (pc + 1) L (.long x :: st) w nc ns Q) : Ev d M pc L (st) w nc ns Q :=
  ev_of (fun r w' kc ks hs p l e R s m args below meth c H locs cells slots G H0 ro ρ ls X hR hL hst hl hlo h1 h2 h3 h4 => lv_lload_n X.1.1 X.1.2.1  hd rfl (qk_lg hl hl0) (hs p l e R s m args below meth c H locs cells slots G H0 ro ρ ls X hR hL (qk_cons (v := .long x) trivial hst) hl hlo h1 h2 h3 h4)) k
def qk_isr : Value → Bool
  | .ref _ => true
  | .null => true
  | _ => false
theorem ev_aload {i : Nat} {v : Value} (hd : decode M.2.1 pc = .ok (.aload i, 2)) (hl0 : L[i]? = some (some v)) (hr : qk_isr v = true) (k : Ev d M (pc + 2) L (v :: st) w nc ns Q) : Ev d M pc L st w nc ns Q := by
  cases v with
  | ref a => exact ev_of (fun r w' kc ks hs p l e R s m args below meth c H locs cells slots G H0 ro ρ ls X hR hL hst hl hlo h1 h2 h3 h4 => lv_aload X.1.1 X.1.2.1 hd (qk_lg hl hl0) (hs p l e R s m args below meth c H locs cells slots G H0 ro ρ ls X hR hL (qk_cons (qk_lo hL hl0) hst) hl hlo h1 h2 h3 h4)) k
  | null => exact ev_of (fun r w' kc ks hs p l e R s m args below meth c H locs cells slots G H0 ro ρ ls X hR hL hst hl hlo h1 h2 h3 h4 => lv_aloadN X.1.1 X.1.2.1 hd (qk_lg hl hl0) (hs p l e R s m args below meth c H locs cells slots G H0 ro ρ ls X hR hL (qk_cons (v := .null) trivial hst) hl hlo h1 h2 h3 h4)) k
  | _ => cases hr
theorem ev_aload_n {i : Fin 4} {v : Value} (hd : decode M.2.1 pc = .ok (.aload_n i, 1)) (hl0 : L[(i : Nat)]? = some (some v)) (hr : qk_isr v = true) (k : Ev d M (pc + 1) L (v :: st) w nc ns Q) : Ev d M pc L st w nc ns Q := by
  cases v with
  | ref a => exact ev_of (fun r w' kc ks hs p l e R s m args below meth c H locs cells slots G H0 ro ρ ls X hR hL hst hl hlo h1 h2 h3 h4 => lv_aload_n X.1.1 X.1.2.1 hd rfl (qk_lg hl hl0) (hs p l e R s m args below meth c H locs cells slots G H0 ro ρ ls X hR hL (qk_cons (qk_lo hL hl0) hst) hl hlo h1 h2 h3 h4)) k
  | null => exact ev_of (fun r w' kc ks hs p l e R s m args below meth c H locs cells slots G H0 ro ρ ls X hR hL hst hl hlo h1 h2 h3 h4 => lv_aload_nN X.1.1 X.1.2.1 hd rfl (qk_lg hl hl0) (hs p l e R s m args below meth c H locs cells slots G H0 ro ρ ls X hR hL (qk_cons (v := .null) trivial hst) hl hlo h1 h2 h3 h4)) k
  | _ => cases hr
theorem ev_istore {i : Nat} {x : Int32} (hd : decode M.2.1 pc = .ok (.istore i, 2)) (hn : i < M.2.2.1) (hc : qk_c2 L i = true) (k : Ev d M (pc + 2) (L.set i (some (.int x))) st w nc ns Q) : Ev d M pc L (.int x :: st) w nc ns Q :=
  ev_of (fun r w' kc ks hs p l e R s m args below meth c H locs cells slots G H0 ro ρ ls X hR hL hst hl hlo h1 h2 h3 h4 => lv_istore X.1.1 X.1.2.1 hd hl hn rfl (fun ls' hl' => (hs p l e R s m args below meth c H locs cells slots G H0 ro ρ ls' X hR (qk_so (v := .int x) hL trivial) (qk_tl hst) (qk_s1 (v := .int x) hc hl') hlo h1 h2 h3 h4))) k
theorem ev_istore_n {i : Fin 4} {x : Int32} (hd : decode M.2.1 pc = .ok (.istore_n i, 1)) (hn : (i : Nat) < M.2.2.1) (hc : qk_c2 L (i : Nat) = true) (k : Ev d M (pc + 1) (L.set (i : Nat) (some (.int x))) st w nc ns Q) : Ev d M pc L (.int x :: st) w nc ns Q :=
  ev_of (fun r w' kc ks hs p l e R s m args below meth c H locs cells slots G H0 ro ρ ls X hR hL hst hl hlo h1 h2 h3 h4 => lv_istore_n X.1.1 X.1.2.1 hd rfl hl hn rfl (fun ls' hl' => (hs p l e R s m args below meth c H locs cells slots G H0 ro ρ ls' X hR (qk_so (v := .int x) hL trivial) (qk_tl hst) (qk_s1 (v := .int x) hc hl') hlo h1 h2 h3 h4))) k
theorem ev_lstore {i : Nat} {x : Int64} (hd : decode M.2.1 pc = .ok (.lstore i, 2)) (hn : i + 1 < M.2.2.1) (hc : qk_c2 L i = true) (k : Ev d M (pc + 2) ((L.set (i + 1) none).set i (some (.long x))) st w nc ns Q) : Ev d M pc L (.long x :: st) w nc ns Q :=
  ev_of (fun r w' kc ks hs p l e R s m args below meth c H locs cells slots G H0 ro ρ ls X hR hL hst hl hlo h1 h2 h3 h4 => lv_lstore X.1.1 X.1.2.1 hd hl hn rfl (fun ls' hl' => (hs p l e R s m args below meth c H locs cells slots G H0 ro ρ ls' X hR (qk_so2 (v := .long x) hL trivial) (qk_tl hst) (qk_s2 (v := .long x) hc hl') hlo h1 h2 h3 h4))) k
theorem ev_lstore_n {i : Fin 4} {x : Int64} (hd : decode M.2.1 pc = .ok (.lstore_n i, 1)) (hn : (i : Nat) + 1 < M.2.2.1) (hc : qk_c2 L (i : Nat) = true) (k : Ev d M (pc + 1) ((L.set ((i : Nat) + 1) none).set (i : Nat) (some (.long x))) st w nc ns Q) : Ev d M pc L (.long x :: st) w nc ns Q :=
  ev_of (fun r w' kc ks hs p l e R s m args below meth c H locs cells slots G H0 ro ρ ls X hR hL hst hl hlo h1 h2 h3 h4 => lv_lstore_n X.1.1 X.1.2.1 hd rfl hl hn rfl (fun ls' hl' => (hs p l e R s m args below meth c H locs cells slots G H0 ro ρ ls' X hR (qk_so2 (v := .long x) hL trivial) (qk_tl hst) (qk_s2 (v := .long x) hc hl') hlo h1 h2 h3 h4))) k
theorem ev_astore {i : Nat} {v : Value} (hd : decode M.2.1 pc = .ok (.astore i, 2)) (hr : qk_isr v = true) (hn : i < M.2.2.1) (hc : qk_c2 L i = true) (k : Ev d M (pc + 2) (L.set i (some v)) st w nc ns Q) : Ev d M pc L (v :: st) w nc ns Q := by
  cases v with
  | ref a => exact ev_of (fun r w' kc ks hs p l e R s m args below meth c H locs cells slots G H0 ro ρ ls X hR hL hst hl hlo h1 h2 h3 h4 => lv_astore X.1.1 X.1.2.1 hd hl hn rfl (fun ls' hl' => (hs p l e R s m args below meth c H locs cells slots G H0 ro ρ ls' X hR (qk_so hL (qk_hd hst)) (qk_tl hst) (qk_s1 (v := .ref a) hc hl') hlo h1 h2 h3 h4))) k
  | null => exact ev_of (fun r w' kc ks hs p l e R s m args below meth c H locs cells slots G H0 ro ρ ls X hR hL hst hl hlo h1 h2 h3 h4 => lv_astoreN X.1.1 X.1.2.1 hd hl hn rfl (fun ls' hl' => (hs p l e R s m args below meth c H locs cells slots G H0 ro ρ ls' X hR (qk_so (v := .null) hL trivial) (qk_tl hst) (qk_s1 (v := .null) hc hl') hlo h1 h2 h3 h4))) k
  | _ => cases hr
theorem ev_astore_n {i : Fin 4} {v : Value} (hd : decode M.2.1 pc = .ok (.astore_n i, 1)) (hr : qk_isr v = true) (hn : (i : Nat) < M.2.2.1) (hc : qk_c2 L (i : Nat) = true) (k : Ev d M (pc + 1) (L.set (i : Nat) (some v)) st w nc ns Q) : Ev d M pc L (v :: st) w nc ns Q := by
  cases v with
  | ref a => exact ev_of (fun r w' kc ks hs p l e R s m args below meth c H locs cells slots G H0 ro ρ ls X hR hL hst hl hlo h1 h2 h3 h4 => lv_astore_n X.1.1 X.1.2.1 hd rfl hl hn rfl (fun ls' hl' => (hs p l e R s m args below meth c H locs cells slots G H0 ro ρ ls' X hR (qk_so hL (qk_hd hst)) (qk_tl hst) (qk_s1 (v := .ref a) hc hl') hlo h1 h2 h3 h4))) k
  | null => exact ev_of (fun r w' kc ks hs p l e R s m args below meth c H locs cells slots G H0 ro ρ ls X hR hL hst hl hlo h1 h2 h3 h4 => lv_astore_nN X.1.1 X.1.2.1 hd rfl hl hn rfl (fun ls' hl' => (hs p l e R s m args below meth c H locs cells slots G H0 ro ρ ls' X hR (qk_so (v := .null) hL trivial) (qk_tl hst) (qk_s1 (v := .null) hc hl') hlo h1 h2 h3 h4))) k
  | _ => cases hr
theorem ev_iinc {i : Nat} {n : Int} {x : Int32} (v : Int32) (hd : decode M.2.1 pc = .ok (.iinc i n, 3)) (hv : Int32.ofInt n = v) (hl0 : L[i]? = some (some (.int x))) (hn : i < M.2.2.1) (hc : qk_c2 L i = true) (k : Ev d M (pc + 3) (L.set i (some (.int (x + v)))) st w nc ns Q) : Ev d M pc L st w nc ns Q := by
  subst hv
  refine ev_of (fun r w' kc ks hs p l e R s m args below meth c H locs cells slots G H0 ro ρ ls X hR hL hst hl hlo h1 h2 h3 h4 => ?_) k
  obtain ⟨k0, hk0⟩ := List.getElem?_of_mem (List.mem_map.mpr ⟨(i, Value.int x), qk_lp0.mpr hl0, rfl⟩ : (i, Value.int x) ∈ (qk_lp 0 L).map fun q => (q.1, qk_rv ρ q.2))
  exact lv_iinc X.1.1 X.1.2.1 hd hl hk0 rfl hn rfl (fun ls' hl' => (hs p l e R s m args below meth c H locs cells slots G H0 ro ρ ls' X hR (qk_so (v := .int (x + Int32.ofInt n)) hL trivial) hst (qk_s1 (v := .int (x + Int32.ofInt n)) hc hl') hlo h1 h2 h3 h4))
theorem ev_dup {v : Value} (hd : decode M.2.1 pc = .ok (.dup, 1)) (hv : v.category = 1) (k : Ev d M (pc + 1) L (v :: v :: st) w nc ns Q) : Ev d M pc L (v :: st) w nc ns Q :=
  ev_of (fun r w' kc ks hs p l e R s m args below meth c H locs cells slots G H0 ro ρ ls X hR hL hst hl hlo h1 h2 h3 h4 => lv_dup X.1.1 X.1.2.1 hd (by rw [qk_rv_cat]; exact hv) (hs p l e R s m args below meth c H locs cells slots G H0 ro ρ ls X hR hL (qk_cons (qk_hd hst) hst) hl hlo h1 h2 h3 h4)) k
theorem ev_pop {v : Value} (hd : decode M.2.1 pc = .ok (.pop, 1)) (hv : v.category = 1) (k : Ev d M (pc + 1) L st w nc ns Q) : Ev d M pc L (v :: st) w nc ns Q :=
  ev_of (fun r w' kc ks hs p l e R s m args below meth c H locs cells slots G H0 ro ρ ls X hR hL hst hl hlo h1 h2 h3 h4 => lv_pop X.1.1 X.1.2.1 hd (by rw [qk_rv_cat]; exact hv) (hs p l e R s m args below meth c H locs cells slots G H0 ro ρ ls X hR hL (qk_tl hst) hl hlo h1 h2 h3 h4)) k
theorem ev_dup2 {va vb : Value} (hd : decode M.2.1 pc = .ok (.dup2, 1)) (hva : va.category = 1) (hvb : vb.category = 1) (k : Ev d M (pc + 1) L (va :: vb :: va :: vb :: st) w nc ns Q) : Ev d M pc L (va :: vb :: st) w nc ns Q :=
  ev_of (fun r w' kc ks hs p l e R s m args below meth c H locs cells slots G H0 ro ρ ls X hR hL hst hl hlo h1 h2 h3 h4 => lv_dup2_11 X.1.1 X.1.2.1 hd (by rw [qk_rv_cat]; exact hva) (by rw [qk_rv_cat]; exact hvb) (hs p l e R s m args below meth c H locs cells slots G H0 ro ρ ls X hR hL (qk_cons (qk_hd hst) (qk_cons (qk_hd (qk_tl hst)) hst)) hl hlo h1 h2 h3 h4)) k
theorem ev_goto {off : Int} (tgt : Nat) (hd : decode M.2.1 pc = .ok (.goto off, 3)) (ht : (pc : Int) + off = (tgt : Int)) (k : Ev d M tgt L st w nc ns Q) : Ev d M pc L st w nc ns Q :=
  ev_of (fun r w' kc ks hs p l e R s m args below meth c H locs cells slots G H0 ro ρ ls X hR hL hst hl hlo h1 h2 h3 h4 => lv_goto X.1.1 X.1.2.1 hd ht (hs p l e R s m args below meth c H locs cells slots G H0 ro ρ ls X hR hL hst hl hlo h1 h2 h3 h4)) k
theorem ev_if_eq {x : Int32} {off : Int} (tgt : Nat) (hd : decode M.2.1 pc = .ok (.ifCond .eq off, 3)) (ht : (pc : Int) + off = (tgt : Int)) (kt : x = 0 → Ev d M tgt L st w nc ns Q) (kf : ¬ (x = 0) → Ev d M (pc + 3) L st w nc ns Q) : Ev d M pc L (.int x :: st) w nc ns Q := by
  by_cases hc : x = 0
  · exact ev_of (fun r w' kc ks hs p l e R s m args below meth c H locs cells slots G H0 ro ρ ls X hR hL hst hl hlo h1 h2 h3 h4 => lv_if_eq X.1.1 X.1.2.1 hd ht (fun _ => (hs p l e R s m args below meth c H locs cells slots G H0 ro ρ ls X hR hL (qk_tl hst) hl hlo h1 h2 h3 h4)) (fun hn => absurd hc hn)) (kt hc)
  · exact ev_of (fun r w' kc ks hs p l e R s m args below meth c H locs cells slots G H0 ro ρ ls X hR hL hst hl hlo h1 h2 h3 h4 => lv_if_eq X.1.1 X.1.2.1 hd ht (fun hn => absurd hn hc) (fun _ => (hs p l e R s m args below meth c H locs cells slots G H0 ro ρ ls X hR hL (qk_tl hst) hl hlo h1 h2 h3 h4))) (kf hc)
theorem ev_icmp_eq {x y : Int32} {off : Int} (tgt : Nat) (hd : decode M.2.1 pc = .ok (.if_icmp .eq off, 3)) (ht : (pc : Int) + off = (tgt : Int)) (kt : x = y → Ev d M tgt L st w nc ns Q) (kf : ¬ (x = y) → Ev d M (pc + 3) L st w nc ns Q) : Ev d M pc L (.int y :: .int x :: st) w nc ns Q := by
  by_cases hc : x = y
  · exact ev_of (fun r w' kc ks hs p l e R s m args below meth c H locs cells slots G H0 ro ρ ls X hR hL hst hl hlo h1 h2 h3 h4 => lv_icmp_eq X.1.1 X.1.2.1 hd ht (fun _ => (hs p l e R s m args below meth c H locs cells slots G H0 ro ρ ls X hR hL (qk_tl (qk_tl hst)) hl hlo h1 h2 h3 h4)) (fun hn => absurd hc hn)) (kt hc)
  · exact ev_of (fun r w' kc ks hs p l e R s m args below meth c H locs cells slots G H0 ro ρ ls X hR hL hst hl hlo h1 h2 h3 h4 => lv_icmp_eq X.1.1 X.1.2.1 hd ht (fun hn => absurd hn hc) (fun _ => (hs p l e R s m args below meth c H locs cells slots G H0 ro ρ ls X hR hL (qk_tl (qk_tl hst)) hl hlo h1 h2 h3 h4))) (kf hc)
theorem ev_if_ne {x : Int32} {off : Int} (tgt : Nat) (hd : decode M.2.1 pc = .ok (.ifCond .ne off, 3)) (ht : (pc : Int) + off = (tgt : Int)) (kt : ¬ x = 0 → Ev d M tgt L st w nc ns Q) (kf : x = 0 → Ev d M (pc + 3) L st w nc ns Q) : Ev d M pc L (.int x :: st) w nc ns Q := by
  by_cases hc : ¬ x = 0
  · exact ev_of (fun r w' kc ks hs p l e R s m args below meth c H locs cells slots G H0 ro ρ ls X hR hL hst hl hlo h1 h2 h3 h4 => lv_if_ne X.1.1 X.1.2.1 hd ht (fun _ => (hs p l e R s m args below meth c H locs cells slots G H0 ro ρ ls X hR hL (qk_tl hst) hl hlo h1 h2 h3 h4)) (fun hn => absurd hn hc)) (kt hc)
  · exact ev_of (fun r w' kc ks hs p l e R s m args below meth c H locs cells slots G H0 ro ρ ls X hR hL hst hl hlo h1 h2 h3 h4 => lv_if_ne X.1.1 X.1.2.1 hd ht (fun hn => absurd (Decidable.not_not.mp hc) hn) (fun _ => (hs p l e R s m args below meth c H locs cells slots G H0 ro ρ ls X hR hL (qk_tl hst) hl hlo h1 h2 h3 h4))) (kf (Decidable.not_not.mp hc))
theorem ev_icmp_ne {x y : Int32} {off : Int} (tgt : Nat) (hd : decode M.2.1 pc = .ok (.if_icmp .ne off, 3)) (ht : (pc : Int) + off = (tgt : Int)) (kt : ¬ x = y → Ev d M tgt L st w nc ns Q) (kf : x = y → Ev d M (pc + 3) L st w nc ns Q) : Ev d M pc L (.int y :: .int x :: st) w nc ns Q := by
  by_cases hc : ¬ x = y
  · exact ev_of (fun r w' kc ks hs p l e R s m args below meth c H locs cells slots G H0 ro ρ ls X hR hL hst hl hlo h1 h2 h3 h4 => lv_icmp_ne X.1.1 X.1.2.1 hd ht (fun _ => (hs p l e R s m args below meth c H locs cells slots G H0 ro ρ ls X hR hL (qk_tl (qk_tl hst)) hl hlo h1 h2 h3 h4)) (fun hn => absurd hn hc)) (kt hc)
  · exact ev_of (fun r w' kc ks hs p l e R s m args below meth c H locs cells slots G H0 ro ρ ls X hR hL hst hl hlo h1 h2 h3 h4 => lv_icmp_ne X.1.1 X.1.2.1 hd ht (fun hn => absurd (Decidable.not_not.mp hc) hn) (fun _ => (hs p l e R s m args below meth c H locs cells slots G H0 ro ρ ls X hR hL (qk_tl (qk_tl hst)) hl hlo h1 h2 h3 h4))) (kf (Decidable.not_not.mp hc))
theorem ev_if_lt {x : Int32} {off : Int} (tgt : Nat) (hd : decode M.2.1 pc = .ok (.ifCond .lt off, 3)) (ht : (pc : Int) + off = (tgt : Int)) (kt : x < 0 → Ev d M tgt L st w nc ns Q) (kf : ¬ (x < 0) → Ev d M (pc + 3) L st w nc ns Q) : Ev d M pc L (.int x :: st) w nc ns Q := by
  by_cases hc : x < 0
  · exact ev_of (fun r w' kc ks hs p l e R s m args below meth c H locs cells slots G H0 ro ρ ls X hR hL hst hl hlo h1 h2 h3 h4 => lv_if_lt X.1.1 X.1.2.1 hd ht (fun _ => (hs p l e R s m args below meth c H locs cells slots G H0 ro ρ ls X hR hL (qk_tl hst) hl hlo h1 h2 h3 h4)) (fun hn => absurd hc hn)) (kt hc)
  · exact ev_of (fun r w' kc ks hs p l e R s m args below meth c H locs cells slots G H0 ro ρ ls X hR hL hst hl hlo h1 h2 h3 h4 => lv_if_lt X.1.1 X.1.2.1 hd ht (fun hn => absurd hn hc) (fun _ => (hs p l e R s m args below meth c H locs cells slots G H0 ro ρ ls X hR hL (qk_tl hst) hl hlo h1 h2 h3 h4))) (kf hc)
theorem ev_icmp_lt {x y : Int32} {off : Int} (tgt : Nat) (hd : decode M.2.1 pc = .ok (.if_icmp .lt off, 3)) (ht : (pc : Int) + off = (tgt : Int)) (kt : x < y → Ev d M tgt L st w nc ns Q) (kf : ¬ (x < y) → Ev d M (pc + 3) L st w nc ns Q) : Ev d M pc L (.int y :: .int x :: st) w nc ns Q := by
  by_cases hc : x < y
  · exact ev_of (fun r w' kc ks hs p l e R s m args below meth c H locs cells slots G H0 ro ρ ls X hR hL hst hl hlo h1 h2 h3 h4 => lv_icmp_lt X.1.1 X.1.2.1 hd ht (fun _ => (hs p l e R s m args below meth c H locs cells slots G H0 ro ρ ls X hR hL (qk_tl (qk_tl hst)) hl hlo h1 h2 h3 h4)) (fun hn => absurd hc hn)) (kt hc)
  · exact ev_of (fun r w' kc ks hs p l e R s m args below meth c H locs cells slots G H0 ro ρ ls X hR hL hst hl hlo h1 h2 h3 h4 => lv_icmp_lt X.1.1 X.1.2.1 hd ht (fun hn => absurd hn hc) (fun _ => (hs p l e R s m args below meth c H locs cells slots G H0 ro ρ ls X hR hL (qk_tl (qk_tl hst)) hl hlo h1 h2 h3 h4))) (kf hc)
theorem ev_if_ge {x : Int32} {off : Int} (tgt : Nat) (hd : decode M.2.1 pc = .ok (.ifCond .ge off, 3)) (ht : (pc : Int) + off = (tgt : Int)) (kt : 0 ≤ x → Ev d M tgt L st w nc ns Q) (kf : ¬ (0 ≤ x) → Ev d M (pc + 3) L st w nc ns Q) : Ev d M pc L (.int x :: st) w nc ns Q := by
  by_cases hc : 0 ≤ x
  · exact ev_of (fun r w' kc ks hs p l e R s m args below meth c H locs cells slots G H0 ro ρ ls X hR hL hst hl hlo h1 h2 h3 h4 => lv_if_ge X.1.1 X.1.2.1 hd ht (fun _ => (hs p l e R s m args below meth c H locs cells slots G H0 ro ρ ls X hR hL (qk_tl hst) hl hlo h1 h2 h3 h4)) (fun hn => absurd hc hn)) (kt hc)
  · exact ev_of (fun r w' kc ks hs p l e R s m args below meth c H locs cells slots G H0 ro ρ ls X hR hL hst hl hlo h1 h2 h3 h4 => lv_if_ge X.1.1 X.1.2.1 hd ht (fun hn => absurd hn hc) (fun _ => (hs p l e R s m args below meth c H locs cells slots G H0 ro ρ ls X hR hL (qk_tl hst) hl hlo h1 h2 h3 h4))) (kf hc)
theorem ev_icmp_ge {x y : Int32} {off : Int} (tgt : Nat) (hd : decode M.2.1 pc = .ok (.if_icmp .ge off, 3)) (ht : (pc : Int) + off = (tgt : Int)) (kt : y ≤ x → Ev d M tgt L st w nc ns Q) (kf : ¬ (y ≤ x) → Ev d M (pc + 3) L st w nc ns Q) : Ev d M pc L (.int y :: .int x :: st) w nc ns Q := by
  by_cases hc : y ≤ x
  · exact ev_of (fun r w' kc ks hs p l e R s m args below meth c H locs cells slots G H0 ro ρ ls X hR hL hst hl hlo h1 h2 h3 h4 => lv_icmp_ge X.1.1 X.1.2.1 hd ht (fun _ => (hs p l e R s m args below meth c H locs cells slots G H0 ro ρ ls X hR hL (qk_tl (qk_tl hst)) hl hlo h1 h2 h3 h4)) (fun hn => absurd hc hn)) (kt hc)
  · exact ev_of (fun r w' kc ks hs p l e R s m args below meth c H locs cells slots G H0 ro ρ ls X hR hL hst hl hlo h1 h2 h3 h4 => lv_icmp_ge X.1.1 X.1.2.1 hd ht (fun hn => absurd hn hc) (fun _ => (hs p l e R s m args below meth c H locs cells slots G H0 ro ρ ls X hR hL (qk_tl (qk_tl hst)) hl hlo h1 h2 h3 h4))) (kf hc)
theorem ev_if_gt {x : Int32} {off : Int} (tgt : Nat) (hd : decode M.2.1 pc = .ok (.ifCond .gt off, 3)) (ht : (pc : Int) + off = (tgt : Int)) (kt : 0 < x → Ev d M tgt L st w nc ns Q) (kf : ¬ (0 < x) → Ev d M (pc + 3) L st w nc ns Q) : Ev d M pc L (.int x :: st) w nc ns Q := by
  by_cases hc : 0 < x
  · exact ev_of (fun r w' kc ks hs p l e R s m args below meth c H locs cells slots G H0 ro ρ ls X hR hL hst hl hlo h1 h2 h3 h4 => lv_if_gt X.1.1 X.1.2.1 hd ht (fun _ => (hs p l e R s m args below meth c H locs cells slots G H0 ro ρ ls X hR hL (qk_tl hst) hl hlo h1 h2 h3 h4)) (fun hn => absurd hc hn)) (kt hc)
  · exact ev_of (fun r w' kc ks hs p l e R s m args below meth c H locs cells slots G H0 ro ρ ls X hR hL hst hl hlo h1 h2 h3 h4 => lv_if_gt X.1.1 X.1.2.1 hd ht (fun hn => absurd hn hc) (fun _ => (hs p l e R s m args below meth c H locs cells slots G H0 ro ρ ls X hR hL (qk_tl hst) hl hlo h1 h2 h3 h4))) (kf hc)
theorem ev_icmp_gt {x y : Int32} {off : Int} (tgt : Nat) (hd : decode M.2.1 pc = .ok (.if_icmp .gt off, 3)) (ht : (pc : Int) + off = (tgt : Int)) (kt : y < x → Ev d M tgt L st w nc ns Q) (kf : ¬ (y < x) → Ev d M (pc + 3) L st w nc ns Q) : Ev d M pc L (.int y :: .int x :: st) w nc ns Q := by
  by_cases hc : y < x
  · exact ev_of (fun r w' kc ks hs p l e R s m args below meth c H locs cells slots G H0 ro ρ ls X hR hL hst hl hlo h1 h2 h3 h4 => lv_icmp_gt X.1.1 X.1.2.1 hd ht (fun _ => (hs p l e R s m args below meth c H locs cells slots G H0 ro ρ ls X hR hL (qk_tl (qk_tl hst)) hl hlo h1 h2 h3 h4)) (fun hn => absurd hc hn)) (kt hc)
  · exact ev_of (fun r w' kc ks hs p l e R s m args below meth c H locs cells slots G H0 ro ρ ls X hR hL hst hl hlo h1 h2 h3 h4 => lv_icmp_gt X.1.1 X.1.2.1 hd ht (fun hn => absurd hn hc) (fun _ => (hs p l e R s m args below meth c H locs cells slots G H0 ro ρ ls X hR hL (qk_tl (qk_tl hst)) hl hlo h1 h2 h3 h4))) (kf hc)
theorem ev_if_le {x : Int32} {off : Int} (tgt : Nat) (hd : decode M.2.1 pc = .ok (.ifCond .le off, 3)) (ht : (pc : Int) + off = (tgt : Int)) (kt : x ≤ 0 → Ev d M tgt L st w nc ns Q) (kf : ¬ (x ≤ 0) → Ev d M (pc + 3) L st w nc ns Q) : Ev d M pc L (.int x :: st) w nc ns Q := by
  by_cases hc : x ≤ 0
  · exact ev_of (fun r w' kc ks hs p l e R s m args below meth c H locs cells slots G H0 ro ρ ls X hR hL hst hl hlo h1 h2 h3 h4 => lv_if_le X.1.1 X.1.2.1 hd ht (fun _ => (hs p l e R s m args below meth c H locs cells slots G H0 ro ρ ls X hR hL (qk_tl hst) hl hlo h1 h2 h3 h4)) (fun hn => absurd hc hn)) (kt hc)
  · exact ev_of (fun r w' kc ks hs p l e R s m args below meth c H locs cells slots G H0 ro ρ ls X hR hL hst hl hlo h1 h2 h3 h4 => lv_if_le X.1.1 X.1.2.1 hd ht (fun hn => absurd hn hc) (fun _ => (hs p l e R s m args below meth c H locs cells slots G H0 ro ρ ls X hR hL (qk_tl hst) hl hlo h1 h2 h3 h4))) (kf hc)
theorem ev_icmp_le {x y : Int32} {off : Int} (tgt : Nat) (hd : decode M.2.1 pc = .ok (.if_icmp .le off, 3)) (ht : (pc : Int) + off = (tgt : Int)) (kt : x ≤ y → Ev d M tgt L st w nc ns Q) (kf : ¬ (x ≤ y) → Ev d M (pc + 3) L st w nc ns Q) : Ev d M pc L (.int y :: .int x :: st) w nc ns Q := by
  by_cases hc : x ≤ y
  · exact ev_of (fun r w' kc ks hs p l e R s m args below meth c H locs cells slots G H0 ro ρ ls X hR hL hst hl hlo h1 h2 h3 h4 => lv_icmp_le X.1.1 X.1.2.1 hd ht (fun _ => (hs p l e R s m args below meth c H locs cells slots G H0 ro ρ ls X hR hL (qk_tl (qk_tl hst)) hl hlo h1 h2 h3 h4)) (fun hn => absurd hc hn)) (kt hc)
  · exact ev_of (fun r w' kc ks hs p l e R s m args below meth c H locs cells slots G H0 ro ρ ls X hR hL hst hl hlo h1 h2 h3 h4 => lv_icmp_le X.1.1 X.1.2.1 hd ht (fun hn => absurd hn hc) (fun _ => (hs p l e R s m args below meth c H locs cells slots G H0 ro ρ ls X hR hL (qk_tl (qk_tl hst)) hl hlo h1 h2 h3 h4))) (kf hc)
theorem ev_ifnull_r {a : Nat} {off : Int} (hd : decode M.2.1 pc = .ok (.ifnull off, 3)) (k : Ev d M (pc + 3) L st w nc ns Q) : Ev d M pc L (.ref a :: st) w nc ns Q :=
  ev_of (fun r w' kc ks hs p l e R s m args below meth c H locs cells slots G H0 ro ρ ls X hR hL hst hl hlo h1 h2 h3 h4 => lv_ifnull X.1.1 X.1.2.1 hd (hs p l e R s m args below meth c H locs cells slots G H0 ro ρ ls X hR hL (qk_tl hst) hl hlo h1 h2 h3 h4)) k
theorem ev_ifnull_n {off : Int} (tgt : Nat) (hd : decode M.2.1 pc = .ok (.ifnull off, 3)) (ht : (pc : Int) + off = (tgt : Int)) (k : Ev d M tgt L st w nc ns Q) : Ev d M pc L (.null :: st) w nc ns Q :=
  ev_of (fun r w' kc ks hs p l e R s m args below meth c H locs cells slots G H0 ro ρ ls X hR hL hst hl hlo h1 h2 h3 h4 => lv_ifnullN X.1.1 X.1.2.1 hd ht (hs p l e R s m args below meth c H locs cells slots G H0 ro ρ ls X hR hL (qk_tl hst) hl hlo h1 h2 h3 h4)) k
theorem ev_ifnonnull_r {a : Nat} {off : Int} (tgt : Nat) (hd : decode M.2.1 pc = .ok (.ifnonnull off, 3)) (ht : (pc : Int) + off = (tgt : Int)) (k : Ev d M tgt L st w nc ns Q) : Ev d M pc L (.ref a :: st) w nc ns Q :=
  ev_of (fun r w' kc ks hs p l e R s m args below meth c H locs cells slots G H0 ro ρ ls X hR hL hst hl hlo h1 h2 h3 h4 => lv_ifnonnull X.1.1 X.1.2.1 hd ht (hs p l e R s m args below meth c H locs cells slots G H0 ro ρ ls X hR hL (qk_tl hst) hl hlo h1 h2 h3 h4)) k
theorem ev_ifnonnull_n {off : Int} (hd : decode M.2.1 pc = .ok (.ifnonnull off, 3)) (k : Ev d M (pc + 3) L st w nc ns Q) : Ev d M pc L (.null :: st) w nc ns Q :=
  ev_of (fun r w' kc ks hs p l e R s m args below meth c H locs cells slots G H0 ro ρ ls X hR hL hst hl hlo h1 h2 h3 h4 => lv_ifnonnullN X.1.1 X.1.2.1 hd (hs p l e R s m args below meth c H locs cells slots G H0 ro ρ ls X hR hL (qk_tl hst) hl hlo h1 h2 h3 h4)) k
theorem ev_swOut {dflt lo hi : Int} {offs : Array Int} {len : Nat} {x : Int32} (tgt : Nat) (hd : decode M.2.1 pc = .ok (.tableswitch dflt lo hi offs, len)) (h : x.toInt < lo ∨ hi < x.toInt) (ht : (pc : Int) + dflt = (tgt : Int)) (k : Ev d M tgt L st w nc ns Q) : Ev d M pc L (.int x :: st) w nc ns Q :=
  ev_of (fun r w' kc ks hs p l e R s m args below meth c H locs cells slots G H0 ro ρ ls X hR hL hst hl hlo h1 h2 h3 h4 => lv_tableOut X.1.1 X.1.2.1 hd h ht (hs p l e R s m args below meth c H locs cells slots G H0 ro ρ ls X hR hL (qk_tl hst) hl hlo h1 h2 h3 h4)) k
theorem ev_swIn {dflt lo hi : Int} {offs : Array Int} {len : Nat} {x : Int32} {off : Int} (tgt : Nat) (hd : decode M.2.1 pc = .ok (.tableswitch dflt lo hi offs, len)) (h : ¬ x.toInt < lo) (hh : ¬ hi < x.toInt) (ho : offs[(x.toInt - lo).toNat]? = some off) (ht : (pc : Int) + off = (tgt : Int)) (k : Ev d M tgt L st w nc ns Q) : Ev d M pc L (.int x :: st) w nc ns Q :=
  ev_of (fun r w' kc ks hs p l e R s m args below meth c H locs cells slots G H0 ro ρ ls X hR hL hst hl hlo h1 h2 h3 h4 => lv_tableIn X.1.1 X.1.2.1 hd h hh ho ht (hs p l e R s m args below meth c H locs cells slots G H0 ro ρ ls X hR hL (qk_tl hst) hl hlo h1 h2 h3 h4)) k
theorem ev_ldc {i : Nat} (v : Int32) (hd : decode M.2.1 pc = .ok (.ldc i, 2)) (hw : Cond.constant M.1.cls i v ∈ lw_tbl) (k : Ev d M (pc + 2) L (.int v :: st) w nc ns Q) : Ev d M pc L st w nc ns Q :=
  ev_of (fun r w' kc ks hs p l e R s m args below meth c H locs cells slots G H0 ro ρ ls X hR hL hst hl hlo h1 h2 h3 h4 => lv_ldc X.1.1 X.1.2.1 X.1.2.2.2.2.1 (X.2.2.1.2.1 _ hw rfl args) hd (hs p l e R s m args below meth c H locs cells slots G H0 ro ρ ls X hR hL (qk_cons (v := .int v) trivial hst) hl hlo h1 h2 h3 h4)) k
theorem ev_ldc_w {i : Nat} (v : Int32) (hd : decode M.2.1 pc = .ok (.ldc_w i, 3)) (hw : Cond.constant M.1.cls i v ∈ lw_tbl) (k : Ev d M (pc + 3) L (.int v :: st) w nc ns Q) : Ev d M pc L st w nc ns Q :=
  ev_of (fun r w' kc ks hs p l e R s m args below meth c H locs cells slots G H0 ro ρ ls X hR hL hst hl hlo h1 h2 h3 h4 => lv_ldcw X.1.1 X.1.2.1 X.1.2.2.2.2.1 (X.2.2.1.2.1 _ hw rfl args) hd (hs p l e R s m args below meth c H locs cells slots G H0 ro ρ ls X hR hL (qk_cons (v := .int v) trivial hst) hl hlo h1 h2 h3 h4)) k
theorem ev_ldc2 {i : Nat} (v : Int64) (hd : decode M.2.1 pc = .ok (.ldc2_w i, 3)) (hw : Cond.constantLong M.1.cls i v ∈ lw_tbl) (k : Ev d M (pc + 3) L (.long v :: st) w nc ns Q) : Ev d M pc L st w nc ns Q :=
  ev_of (fun r w' kc ks hs p l e R s m args below meth c H locs cells slots G H0 ro ρ ls X hR hL hst hl hlo h1 h2 h3 h4 => lv_ldc2 X.1.1 X.1.2.1 X.1.2.2.2.2.1 (X.2.2.1.2.1 _ hw rfl args) hd (hs p l e R s m args below meth c H locs cells slots G H0 ro ρ ls X hR hL (qk_cons (v := .long v) trivial hst) hl hlo h1 h2 h3 h4)) k
theorem ev_drop {L' : List (Option Value)} (h : ∀ (j : Nat) (v : Value), L'[j]? = some (some v) → L[j]? = some (some v)) (k : Ev d M pc L' st w nc ns Q) : Ev d M pc L st w nc ns Q :=
  ev_of (fun r w' kc ks hs p l e R s m args below meth c H locs cells slots G H0 ro ρ ls X hR hL hst hl hlo h1 h2 h3 h4 => (hs p l e R s m args below meth c H locs cells slots G H0 ro ρ ls X hR (fun q hq => hL q (qk_lp0.mpr (h q.1 q.2 (qk_lp0.mp hq)))) hst (qk_sub hl (fun q hq => by obtain ⟨q0, hq0, rfl⟩ := List.mem_map.mp hq; exact List.mem_map.mpr ⟨q0, qk_lp0.mpr (h q0.1 q0.2 (qk_lp0.mp hq0)), rfl⟩)) hlo h1 h2 h3 h4)) k
theorem ev_top {x : Int32} (k : ∀ y : Int32, y = x → Ev d M pc L (.int y :: st) w nc ns Q) : Ev d M pc L (.int x :: st) w nc ns Q := k x rfl
theorem ev_as {x y : Int32} (h : x = y) (k : Ev d M pc L (.int y :: st) w nc ns Q) : Ev d M pc L (.int x :: st) w nc ns Q := h ▸ k
theorem ev_asl {x y : Int64} (h : x = y) (k : Ev d M pc L (.long y :: st) w nc ns Q) : Ev d M pc L (.long x :: st) w nc ns Q := h ▸ k
theorem ev_mono {Q' : Option Value ⊕ Nat → qk_W → Nat → Nat → Prop} (h : ∀ r w' a b, Q' r w' a b → Q r w' a b) (k : Ev d M pc L st w nc ns Q') : Ev d M pc L st w nc ns Q := by
  obtain ⟨r, w', kc, ks, hq, hs⟩ := k
  exact ⟨r, w', kc, ks, h _ _ _ _ hq, hs⟩
end Rules
