/-! ===== virtual worlds: cells by names of my own, references by those names; qk_rv turns a name into an address ===== -/
abbrev qk_C : Type := (FieldType × vp_A) ⊕ (Nat × List Value)
abbrev qk_W : Type := Nat → Option qk_C
abbrev qk_M : Type := MethodName × ByteArray × Nat × Option FieldType × List (Nat × Nat × Nat × Nat)
abbrev qk_G : Type := va_G × (FieldType → ClassId)
def qk_rv (ρ : Nat → Nat) : Value → Value
  | .ref a => .ref (ρ a)
  | v => v
def qk_ra (ρ : Nat → Nat) (a : vp_A) : vp_A := match a with
  | (n, .inr (.inr (.inr (.inr f)))) => (n, .inr (.inr (.inr (.inr (fun j => (f j).map ρ)))))
  | x => x
def qk_re (ρ : Nat → Nat) (E : FieldType → ClassId) : qk_C → va_E
  | .inl (ty, a) => .inl (E ty, qk_ra ρ a)
  | .inr (ci, fs) => .inr (ci, fs.map (qk_rv ρ))
def qk_ok (w : qk_W) : Value → Prop
  | .ref a => w a ≠ none
  | _ => True
def qk_okC (w : qk_W) : qk_C → Prop
  | .inl (_, _, .inr (.inr (.inr (.inr f)))) => ∀ j a, f j = some a → w a ≠ none
  | .inl _ => True
  | .inr (_, fs) => ∀ v ∈ fs, qk_ok w v
def qk_set (w : qk_W) (a : Nat) (e : qk_C) : qk_W := fun b => if b = a then some e else w b
theorem qk_set_eq (w : qk_W) (a : Nat) (e : qk_C) : qk_set w a e a = some e := by simp [qk_set]
theorem qk_set_ne {w : qk_W} {a b : Nat} {e : qk_C} (h : b ≠ a) : qk_set w a e b = w b := by simp [qk_set, h]
theorem qk_set_some {w : qk_W} {a b : Nat} {e : qk_C} (h : w b ≠ none) : qk_set w a e b ≠ none := by
  unfold qk_set
  split
  · exact fun h => by cases h
  · exact h
theorem qk_ok_mono {w w' : qk_W} (h : ∀ v, w v ≠ none → w' v ≠ none) {x : Value} (hx : qk_ok w x) : qk_ok w' x := by
  cases x <;> first | exact trivial | exact h _ hx
theorem qk_okC_mono {w w' : qk_W} (h : ∀ v, w v ≠ none → w' v ≠ none) {x : qk_C} (hx : qk_okC w x) : qk_okC w' x := by
  match x, hx with
  | .inl (_, _, .inl _), _ => exact trivial
  | .inl (_, _, .inr (.inl _)), _ => exact trivial
  | .inl (_, _, .inr (.inr (.inl _))), _ => exact trivial
  | .inl (_, _, .inr (.inr (.inr (.inl _)))), _ => exact trivial
  | .inl (_, _, .inr (.inr (.inr (.inr f)))), hx => exact fun j a hj => h _ (hx j a hj)
  | .inr (_, fs), hx => exact fun v hv => qk_ok_mono h (hx v hv)
theorem qk_rv_congr {ρ ρ' : Nat → Nat} {w : qk_W} (h : ∀ v, w v ≠ none → ρ' v = ρ v) {x : Value} (hx : qk_ok w x) : qk_rv ρ' x = qk_rv ρ x := by
  cases x <;> first | rfl | exact congrArg Value.ref (h _ hx)
theorem qk_re_congr {ρ ρ' : Nat → Nat} {w : qk_W} (E : FieldType → ClassId) (h : ∀ v, w v ≠ none → ρ' v = ρ v) {x : qk_C} (hx : qk_okC w x) : qk_re ρ' E x = qk_re ρ E x := by
  match x, hx with
  | .inl (_, _, .inl _), _ => rfl
  | .inl (_, _, .inr (.inl _)), _ => rfl
  | .inl (_, _, .inr (.inr (.inl _))), _ => rfl
  | .inl (_, _, .inr (.inr (.inr (.inl _)))), _ => rfl
  | .inl (ty, n, .inr (.inr (.inr (.inr f)))), hx =>
    show Sum.inl (E ty, n, Sum.inr (Sum.inr (Sum.inr (Sum.inr fun j => (f j).map ρ')))) = Sum.inl (E ty, n, Sum.inr (Sum.inr (Sum.inr (Sum.inr fun j => (f j).map ρ))))
    have : (fun j => (f j).map ρ') = fun j => (f j).map ρ := by
      funext j
      cases hj : f j with
      | none => rfl
      | some a => exact congrArg some (h a (hx j a hj))
    rw [this]
  | .inr (ci, fs), hx =>
    show Sum.inr (ci, fs.map (qk_rv ρ')) = Sum.inr (ci, fs.map (qk_rv ρ))
    rw [List.map_congr_left (fun v hv => qk_rv_congr h (hx v hv))]
theorem qk_rv_cat (ρ : Nat → Nat) (x : Value) : (qk_rv ρ x).category = x.category := by cases x <;> rfl
/-- the words of the tables hold at U, whatever the arguments -/
def qk_gw : Cond → Bool
  | .fieldLinkNest .. => true
  | .methodLinkNest .. => true
  | .castable .. => true
  | .declares .. => true
  | .stringRef .. => true
  | .arrayOver (.object _) => true
  | w => goodWord w
def qk_ws (U : State) : Prop := ∀ w ∈ lw_tbl, qk_gw w = true → ∀ a : Array Value, w.before a U = true
theorem qk_warm {s U : State} (hW : s.WarmedH U.vm) (h : qk_ws s) : qk_ws U := by
  intro w hw h1 a
  have h2 := h w hw h1 a
  cases w with
  | fieldLinkNest b i c n d h => exact va_tabs rfl (rfl : (s.setVm U.vm).vm = U.vm) (Cond.fieldLinkNest_warmed (args := a) hW h2)
  | methodLinkNest b i c n => exact va_tabs rfl (rfl : (s.setVm U.vm).vm = U.vm) (Cond.methodLinkNest_warmed (args := a) hW h2)
  | castable c t => exact va_tabs rfl (rfl : (s.setVm U.vm).vm = U.vm) (by rw [Cond.castable_setVm (args := a) hW.alike]; exact h2)
  | declares x => exact va_tabs rfl (rfl : (s.setVm U.vm).vm = U.vm) (by rw [Cond.declares_setVm (args := a) hW.alike]; exact h2)
  | stringRef c i t =>
    have h3 := Cond.stringRef_warmed (args := a) hW h2
    first
      | exact va_tabs rfl (rfl : (s.setVm U.vm).vm = U.vm) h3
      | (simp only [Cond.before, Cond.holds, Cond.value, State.names, State.poolOf?, State.resolvedAt?] at h3 ⊢; exact h3)
  | arrayOver t => cases t with
    | object C => exact va_AO.use (va_AO.moved hW.alike (va_AO.of h2))
    | _ => cases h1
  | _ => exact word_at hW (good_of_word h1) h2
/-- the array classes that are used -/
def qk_tyl : List FieldType := [.int, .byte, .boolean, .long, .object "QuakeLink$Channel", .object "QuakeLink$Packet", .object "QuakeLink$Message", .object "QuakeLink$Track", .object "QuakeLink$Page"]
def qk_tys (E : FieldType → ClassId) : List (ClassId × FieldType) := qk_tyl.map fun t => (E t, t)
abbrev qk_O : Type := Nat → Option (Nat × (Nat → Int32))
/-- what the tables (of U) and the cells that were there at the law's start say; ro: the read-only int arrays, by their names (0 the script, 1 WIDTHS, 2 CHECK_STEPS) -/
def qk_K (G : qk_G) (H0 : Heap) (ro : qk_O) (ρ : Nat → Nat) (U : State) : Prop :=
  va_K G.1 qcl (qk_tys G.2) U ∧ qk_ws U ∧
  va_Z "QuakeLink" "WIDTHS" "[I" (.ref (ρ 1)) (fun q => H0.size ≤ q) U H0 ∧ va_Z "QuakeLink" "CHECK_STEPS" "[I" (.ref (ρ 2)) (fun q => H0.size ≤ q) U H0 ∧
  (∀ v n f, ro v = some (n, f) → v < 16 ∧ ρ v < H0.size ∧ va_T .int (ρ v) n (fun j => .int (f j)) (fun q => H0.size ≤ q) U H0)
/-- the world w lies in the heap H, by the addresses ρ -/
def qk_R (G : qk_G) (H0 : Heap) (ro : qk_O) (ρ : Nat → Nat) (w : qk_W) (H : Heap) : Prop :=
  (H0.size ≤ H.size ∧ (∀ q, q < H0.size → H[q]? = H0[q]?) ∧ ∀ q cell, H0.size ≤ q → H[q]? = some cell → cell.vm.isStatics = false) ∧
  (∀ v, v < 16 → w v = (ro v).map fun q => .inl (.int, q.1, .inl q.2)) ∧
  (∀ v e, 16 ≤ v → w v = some e → H0.size ≤ ρ v ∧ va_at G.1 qcl (ρ v, qk_re ρ G.2 e) H ∧ qk_okC w e) ∧
  (∀ v v', 16 ≤ v → 16 ≤ v' → w v ≠ none → w v' ≠ none → ρ v = ρ v' → v = v')
/-- a static field of Throwable that holds a reference or null, and that nobody writes -/
def qk_sf (n d : String) (U : State) (H : Heap) : Prop := ∃ c k i fd a cell v, U.vm.findClass "java/lang/Throwable" = some c ∧ U.fieldFound? "java/lang/Throwable" n d = some (c, k, i, fd) ∧ fd.isStatic = true ∧ k.statics = some a ∧ H[a]? = some cell ∧ cell.vm.isStatics = true ∧ cell.cls = c ∧
  fd.slot < cell.slots.size ∧ k.staticTypes[fd.slot]? = some fd.type ∧ cell.slots[fd.slot]? = some v ∧ v.isRef = true
theorem qk_sf.moved {n d : String} {u U : State} {H : Heap} (hvm : u.vm.Alike U.vm) (h : qk_sf n d u H) : qk_sf n d U H := by
  obtain ⟨c, k, i, fd, a, cell, v, h1, h2, h3, h4, h5, h6, h7, h8, h9, h10⟩ := h
  obtain ⟨k', hi', he⟩ := State.fieldFound?_setVm hvm h2
  exact ⟨c, k', i, fd, a, cell, v, by rw [hvm.findClass]; exact h1, hi', h3, by rw [he]; exact h4, h5, h6, h7, h8, by rw [he]; exact h9, h10⟩
theorem qk_sf.lays {n d : String} {U : State} {args : Array Value} (h : qk_sf n d U U.heap) : (Cond.laysStatic "java/lang/Throwable" n d).before args U = true := by
  obtain ⟨c, k, i, fd, a, cell, v, h1, h2, h3, h4, h5, h6, h7, h8, h9, h10⟩ := h
  simp [Cond.before, Cond.holds, Cond.value, h1, h2, h3, h4, h5, h6, h7, h8, h9]
theorem qk_sf.isRef {n d : String} {U : State} {args : Array Value} (h : qk_sf n d U U.heap) : (Cond.isRef (.static "java/lang/Throwable" n d)).before args U = true := by
  obtain ⟨c, k, i, fd, a, cell, v, h1, h2, h3, h4, h5, h6, h7, h8, h9, h10, h11⟩ := h
  have he : (Term.static "java/lang/Throwable" n d).eval args U none [] U = some v := by
    simp [Term.eval, State.fieldNamed?, h2, h3, h4, h5, h6, h10]
  simp only [Cond.before, Cond.holds, Cond.value, he]
  cases v <;> first | rfl | cases h11
def qk_ncl : List (String × String) := [("java/lang/IllegalStateException", "java/lang/IndexOutOfBoundsException"), ("java/lang/IllegalArgumentException", "java/lang/IndexOutOfBoundsException"), ("java/lang/IllegalStateException", "java/lang/IllegalArgumentException")]
def qk_Z (l : Launch) (H0 : Heap) (U : State) : Prop := l.stackTraces = false ∧ qk_sf "UNASSIGNED_STACK" "[Ljava/lang/StackTraceElement;" U H0 ∧ qk_sf "SUPPRESSED_SENTINEL" "Ljava/util/List;" U H0 ∧ ∀ q ∈ qk_ncl, va_Nc q.1 q.2 U
/-- what holds of a method's invocation s -/
def qk_X (M : qk_M) (p : Program) (l : Launch) (s : State) (m : MethodId) (meth : Method) (c : Code) (G : qk_G) (H0 : Heap) (ro : qk_O) (ρ : Nat → Nat) : Prop :=
  (p.tables.exec = Jvm.exec ∧ c.code = M.2.1 ∧ meth.sig.returnType = M.2.2.2.1 ∧ c.maxLocals = M.2.2.1 ∧ s.vm.findClass M.1.cls = some m.cls ∧ meth.locks = false ∧ meth.name = M.1.name ∧
    c.exceptionTable.toList.map (fun h => (h.startPc, h.endPc, h.handlerPc, h.catchType)) = M.2.2.2.2) ∧
  qk_Z l H0 s ∧ qk_K G H0 ro ρ s ∧ ∀ q cell, H0.size ≤ q → s.heap[q]? = some cell → cell.vm.isStatics = false
/-- a method's end: it returned (inl) or threw (inr, the exception's name), the world is w' -/
def qk_E (G : qk_G) (H0 : Heap) (ro : qk_O) (ρ : Nat → Nat) (w : qk_W) (s : State) (below : List Frame) (r : Option Value ⊕ Nat) (w' : qk_W) (mc ms : Nat) : State → Prop := fun t =>
  ∃ (o : Outcome) (ρ' : Nat → Nat) (L : List Loc), t.status = .running ∧ Ended t below o ∧
    (match r with | .inl v => o = .returned (v.map (qk_rv ρ')) ∧ ∀ x, v = some x → qk_ok w' x | .inr x => o = .threw (ρ' x) ∧ 16 ≤ x ∧ w' x ≠ none) ∧
    (∀ v, w v ≠ none → ρ' v = ρ v ∧ w' v ≠ none) ∧ (∀ v, v < 16 → ρ' v = ρ v) ∧ qk_R G H0 ro ρ' w' t.heap ∧ s.WarmedH t.vm ∧ s.sameButNew ({ t with vm := s.vm } : State) L mc ms ∧ ∀ q ∈ L, H0.size ≤ q.base
/-- local variables, by their numbers; none: unset, or not to be spoken of -/
def qk_lp : Nat → List (Option Value) → List (Nat × Value)
  | _, [] => []
  | i, none :: t => qk_lp (i + 1) t
  | i, some v :: t => (i, v) :: qk_lp (i + 1) t
theorem qk_lp_mem {L : List (Option Value)} {i j : Nat} {v : Value} : (j, v) ∈ qk_lp i L ↔ ∃ k, j = i + k ∧ L[k]? = some (some v) := by
  induction L generalizing i with
  | nil => simp [qk_lp]
  | cons a t ih =>
    have hh : (j, v) ∈ qk_lp i (a :: t) ↔ (j = i ∧ a = some v) ∨ (j, v) ∈ qk_lp (i + 1) t := by
      cases a <;> simp [qk_lp, eq_comm]
    rw [hh, ih]
    constructor
    · rintro (⟨rfl, rfl⟩ | ⟨k, rfl, hk⟩)
      · exact ⟨0, rfl, rfl⟩
      · exact ⟨k + 1, by omega, hk⟩
    · rintro ⟨k, rfl, hk⟩
      cases k with
      | zero => exact Or.inl ⟨rfl, by simpa using hk⟩
      | succ k => exact Or.inr ⟨k, by omega, by simpa using hk⟩
theorem qk_lp0 {L : List (Option Value)} {j : Nat} {v : Value} : (j, v) ∈ qk_lp 0 L ↔ L[j]? = some (some v) := by
  rw [qk_lp_mem]
  constructor
  · rintro ⟨k, rfl, hk⟩
    simpa using hk
  · exact fun h => ⟨j, by omega, h⟩
/-- from this frame the method comes to that end, with kc cells of ks slots made, nesting at most d deep -/
def qk_S (d : Nat) (M : qk_M) (pc : Nat) (L : List (Option Value)) (st : List Value) (w : qk_W) (r : Option Value ⊕ Nat) (w' : qk_W) (kc ks : Nat) : Prop :=
  ∀ (p : Program) (l : Launch) (e : Env) (R : Room) (s : State) (m : MethodId) (args : Array Value) (below : List Frame) (meth : Method) (c : Code) (H : Heap) (locs : List Loc) (cells slots : Nat) (G : qk_G) (H0 : Heap) (ro : qk_O) (ρ : Nat → Nat) (ls : Array Slot),
    qk_X M p l s m meth c G H0 ro ρ → qk_R G H0 ro ρ w H → (∀ q ∈ qk_lp 0 L, qk_ok w q.2) → (∀ x ∈ st, qk_ok w x) → lv_has ls M.2.2.1 ((qk_lp 0 L).map fun q => (q.1, qk_rv ρ q.2)) → (∀ q ∈ locs, H0.size ≤ q.base) →
    d ≤ R.frames → 36 * d ≤ R.locals → cells + kc ≤ R.cells → slots + ks ≤ R.slots →
    W p l e R s m args below meth c H locs cells slots (qk_E G H0 ro ρ w s below r w' (cells + kc) (slots + ks)) (F0 m pc ls (st.map (qk_rv ρ)))
/-- THE JUDGEMENT: from here the method comes to an end (answer or throw, world, cells and slots made so far) that Q takes -/
def Ev (d : Nat) (M : qk_M) (pc : Nat) (L : List (Option Value)) (st : List Value) (w : qk_W) (nc ns : Nat) (Q : Option Value ⊕ Nat → qk_W → Nat → Nat → Prop) : Prop :=
  ∃ r w' kc ks, Q r w' (nc + kc) (ns + ks) ∧ qk_S d M pc L st w r w' kc ks
