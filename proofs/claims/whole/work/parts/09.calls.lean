/-! ===== rules: calls ===== -/
def qk_en : List Value → List (Option Value)
  | [] => []
  | .long x :: t => some (.long x) :: none :: qk_en t
  | .double x :: t => some (.double x) :: none :: qk_en t
  | v :: t => some v :: qk_en t
def qk_ent (n : Nat) (As : List Value) : List (Option Value) := qk_en As ++ List.replicate (n - (qk_en As).length) none
theorem qk_en_cons (v : Value) (t : List Value) : qk_en (v :: t) = some v :: (if v.category = 2 then none :: qk_en t else qk_en t) := by
  cases v <;> rfl
theorem qk_en_len (As : List Value) : (qk_en As).length = (lg_sl As).length := by
  induction As with
  | nil => rfl
  | cons v t ih =>
    rw [qk_en_cons]
    unfold lg_sl at ih ⊢
    rw [List.flatMap_cons, List.length_append]
    by_cases h : v.category = 2 <;> simp [h, ih] <;> omega
theorem qk_en_map (ρ : Nat → Nat) (As : List Value) : (lg_sl (As.map (qk_rv ρ))).length = (qk_en As).length := by
  rw [← qk_en_len]
  induction As with
  | nil => rfl
  | cons v t ih =>
    rw [List.map_cons, qk_en_cons, qk_en_cons, qk_rv_cat]
    by_cases h : v.category = 2 <;> simp [h, ih]
theorem qk_en_mem {As : List Value} {ρ : Nat → Nat} : ∀ (i j : Nat) (u : Value) (pad : List (Option Value)), (∀ x ∈ pad, x = none) → (j, u) ∈ qk_lp i (qk_en As ++ pad) → (j, qk_rv ρ u) ∈ lv_args i (As.map (qk_rv ρ)) ∧ u ∈ As := by
  induction As with
  | nil =>
    intro i j u pad hp h
    obtain ⟨k, -, hk⟩ := qk_lp_mem.mp h
    have := hp _ (List.mem_of_getElem? hk)
    cases this
  | cons v t ih =>
    intro i j u pad hp h
    rw [qk_en_cons] at h
    by_cases hc : v.category = 2
    · rw [if_pos hc] at h
      simp only [List.cons_append, qk_lp] at h
      rcases List.mem_cons.mp h with h | h
      · cases h
        exact ⟨by simp [lv_args], List.mem_cons_self⟩
      · obtain ⟨a, b⟩ := ih (i + 1 + 1) j u pad hp h
        refine ⟨?_, List.mem_cons_of_mem _ b⟩
        simp only [List.map_cons, lv_args, qk_rv_cat, hc, if_true]
        exact List.mem_cons_of_mem _ a
    · rw [if_neg hc] at h
      simp only [List.cons_append, qk_lp] at h
      rcases List.mem_cons.mp h with h | h
      · cases h
        exact ⟨by simp [lv_args], List.mem_cons_self⟩
      · obtain ⟨a, b⟩ := ih (i + 1) j u pad hp h
        refine ⟨?_, List.mem_cons_of_mem _ b⟩
        simp only [List.map_cons, lv_args, qk_rv_cat, hc, if_false]
        exact List.mem_cons_of_mem _ a
theorem qk_weaken {tb : Tables} {e : Env} {f : Frame} {below : List Frame} {a b : State} (h : Steps tb e (f :: below) a b) : Steps tb e below a b := by
  obtain ⟨n, h1, h2⟩ := h
  exact ⟨n, h1, fun k hk => Within.weaken (mid := [f]) (h2 k hk)⟩
/-- M is a method of the tables -/
def qk_isM (M : qk_M) : Prop := ((M.2.2.2.2 = [] ∧ Cond.code M.1 M.2.1 M.2.2.1 M.2.2.2.1 ∈ lw_tbl) ∨ Cond.codeWith M.1 M.2.1 M.2.2.1 M.2.2.2.1 M.2.2.2.2 ∈ lw_tbl) ∧ plainFor M.1 = true ∧ (M.1.cls ≠ "java/lang/invoke/MethodHandle" ∧ M.1.cls ≠ "java/lang/invoke/VarHandle") ∧ Cond.initialized M.1.cls ∈ lw_tbl ∧ M.2.2.1 ≤ 17
theorem qk_code {M : qk_M} (hM : qk_isM M) {U : State} (hU : qk_ws U) {mk : MethodId} (hn : U.methodNamed? M.1 = some mk) :
    ∃ meth c, U.vm.method? mk = some meth ∧ meth.code = some c ∧ c.code = M.2.1 ∧ c.maxLocals = M.2.2.1 ∧ meth.sig.returnType = M.2.2.2.1 ∧ meth.locks = false ∧ c.exceptionTable.toList.map (fun h => (h.startPc, h.endPc, h.handlerPc, h.catchType)) = M.2.2.2.2 ∧ parseMethodDescriptor M.1.desc = some meth.sig := by
  rcases hM.1 with ⟨h0, h1⟩ | h1
  · obtain ⟨meth, c, a1, a2, a3, a4, a5, a6, a7, a8⟩ := Cond.code_spec hn (hU _ h1 rfl #[])
    refine ⟨meth, c, a1, a2, a3, a4, a5, a6, ?_, a8⟩
    rw [h0]
    have : c.exceptionTable = #[] := by simpa using a7
    rw [this]; rfl
  · obtain ⟨mk', meth, c, a0, a1, a2, a3, a4, a5, a6, a7, a8⟩ := Cond.codeWith_spec (hU _ h1 rfl #[])
    cases hn.symm.trans a0
    exact ⟨meth, c, a1, a2, a3, a4, a6, a7, a5, a8⟩
theorem qk_Kmv {G : qk_G} {H0 : Heap} {ro : qk_O} {ρ : Nat → Nat} {s U : State} (hW : s.WarmedH U.vm) (h : qk_K G H0 ro ρ s) : qk_K G H0 ro ρ U := by
  obtain ⟨k1, k2, k3, k4, k5⟩ := h
  exact ⟨k1.moved hW.alike, qk_warm hW k2, k3.moved hW.alike, k4.moved hW.alike, fun v n f hv => ⟨(k5 v n f hv).1, (k5 v n f hv).2.1, (k5 v n f hv).2.2.moved hW.alike⟩⟩
theorem qk_inner {d : Nat} {M M' : qk_M} {w w1 : qk_W} {r1 : Option Value ⊕ Nat} {kc1 ks1 : Nat} {As : List Value} {p : Program} {l : Launch} {e : Env} {R : Room} {s : State} {m : MethodId} {args : Array Value} {below : List Frame} {meth : Method} {c : Code} {T : State} {H : Heap} {locs : List Loc} {cells slots : Nat} {G : qk_G} {H0 : Heap} {ro : qk_O} {ρ : Nat → Nat}
    (X : qk_X M p l s m meth c G H0 ro ρ) (hM : qk_isM M') (Y : Stand p l e R s m args below meth c T locs cells slots) (hT : T.heap = H) (hR : qk_R G H0 ro ρ w H) (hs : qk_S d M' 0 (qk_ent M'.2.2.1 As) [] w r1 w1 kc1 ks1) (hAs : ∀ x ∈ As, qk_ok w x) (hln : (qk_en As).length ≤ M'.2.2.1)
    {g : JFrame} (hg : g.method = m) (hsize : g.locals.size = c.maxLocals) {ig : Instr} (hdg : decode c.code g.pc = .ok (ig, 3)) (hW : 2 * g.monitorRoom + (g.stack.map fun v => v.category).sum ≤ 8) {mk : MethodId} (hn : s.methodNamed? M'.1 = some mk)
    (h1 : d + 1 ≤ R.frames) (h2 : 36 * (d + 1) ≤ R.locals) (h3 : cells + kc1 ≤ R.cells) (h4 : slots + ks1 ≤ R.slots) :
    ∃ t, (∀ acts, Steps p.tables e below (doInvoke e (T.setTop g) acts mk (As.map (qk_rv ρ)).toArray).1 t) ∧ qk_E G H0 ro ρ w (T.calling g mk (As.map (qk_rv ρ)).toArray) (.java g :: below) r1 w1 (0 + kc1) (0 + ks1) t := by
  have hUw : qk_ws T := qk_warm Y.warmed X.2.2.1.2.1
  have hnT : T.methodNamed? M'.1 = some mk := Y.named hn
  obtain ⟨methk, ck, a1, a2, a3, a4, a5, a6, a7, a8⟩ := qk_code hM hUw hnT
  have hpk : T.plainMethod mk := State.plainMethod.of_named hM.2.1 hnT a1
  have h17 := hM.2.2.2.2
  obtain ⟨Y', hin⟩ := Y.into hg hsize hdg (As.map (qk_rv ρ)).toArray (R' := { frames := d, cells := kc1, slots := ks1, locals := 36 * d }) a1 a2 a6 hpk h1 (by rw [a4]; simp only; omega) h3 h4
  have hcv : (T.calling g mk (As.map (qk_rv ρ)).toArray).vm = T.vm := by rw [State.calling_eq Y.here.top]; rfl
  have hch : (T.calling g mk (As.map (qk_rv ρ)).toArray).heap = H := by rw [State.calling_eq Y.here.top]; exact hT
  have X' : qk_X M' p l (T.calling g mk (As.map (qk_rv ρ)).toArray) mk methk ck G H0 ro ρ := by
    refine ⟨⟨X.1.1, a3, a5, a4, ?_, a6, (name_of_methodNamed hnT a1).1, a7⟩, ⟨X.2.1.1, X.2.1.2.1.moved (by rw [hcv]; exact Y.warmed.alike), X.2.1.2.2.1.moved (by rw [hcv]; exact Y.warmed.alike), fun q hq => (X.2.1.2.2.2 q hq).moved (by rw [hcv]; exact Y.warmed.alike)⟩, qk_Kmv (by rw [hcv]; exact Y.warmed) X.2.2.1, fun q cell hq hc => hR.1.2.2 q cell hq (by rw [← hch]; exact hc)⟩
    rw [hcv]
    exact findClass_of_methodNamed hnT
  have hpad : ∀ x ∈ List.replicate (M'.2.2.1 - (qk_en As).length) (none : Option Value), x = none := fun x hx => (List.mem_replicate.mp hx).2
  have hlv : lv_has ((lg_sl (As.map (qk_rv ρ)) ++ List.replicate (M'.2.2.1 - (lg_sl (As.map (qk_rv ρ))).length) Slot.unset).toArray) M'.2.2.1 ((qk_lp 0 (qk_ent M'.2.2.1 As)).map fun q => (q.1, qk_rv ρ q.2)) := by
    refine qk_sub (lv_entry (As.map (qk_rv ρ)) (by rw [qk_en_map]; exact hln)) ?_
    intro q hq
    obtain ⟨⟨j, u⟩, hm, rfl⟩ := List.mem_map.mp hq
    exact (qk_en_mem 0 j u _ hpad hm).1
  have k2 := hs p l e { frames := d, cells := kc1, slots := ks1, locals := 36 * d } (T.calling g mk (As.map (qk_rv ρ)).toArray) mk (As.map (qk_rv ρ)).toArray (.java g :: below) methk ck H [] 0 0 G H0 ro ρ _ X' hR (fun q hq => hAs _ (qk_en_mem (ρ := ρ) 0 q.1 q.2 _ hpad hq).2) (fun x hx => by cases hx) hlv (fun q hq => by cases hq) (Nat.le_refl _) (Nat.le_refl _) (by simp) (by simp)
  obtain ⟨t, t1, t2⟩ := k2 ((T.setTop g).pushFrame (.java (entryFrame mk (As.map (qk_rv ρ)).toArray ck.maxLocals))) hT Y'
  refine ⟨t, fun acts => ?_, t2⟩
  rw [hin acts, a4, lg_entry_eq]
  have t3 := qk_weaken t1
  rw [a4, lg_entry_eq] at t3
  exact t3
/-- a call's own step: from the frame g with the arguments on the stack to the invocation of mk, the arguments taken off -/
def qk_stp (p : Program) (l : Launch) (e : Env) (R : Room) (s : State) (m : MethodId) (args : Array Value) (below : List Frame) (meth : Method) (c : Code) (T : State) (locs : List Loc) (cells slots : Nat) (y : MethodName) (g : JFrame) (rest : List Value) (a : Array Value) : Prop :=
  ∃ (mk : MethodId) (vm₁ : Vm), s.methodNamed? y = some mk ∧ Stand p l e R s m args below meth c (T.setVm vm₁) locs cells slots ∧ ∀ target, (∀ acts, Steps p.tables e below (doInvoke e ((T.setVm vm₁).setTop { g with stack := rest }) acts mk a).1 target) → Steps p.tables e below (T.setTop g) target
/-- the words of a call: y is called by the instruction ig, entry idx of own's pool -/
def qk_cw (own : String) (y : MethodName) : Instr → Prop
  | .invokevirtual idx => Cond.methodLink own idx y ∈ lw_tbl ∧ Cond.instanceMethod y ∈ lw_tbl ∧ Cond.selects y.cls y y ∈ lw_tbl
  | .invokestatic idx => (Cond.methodLink own idx y ∈ lw_tbl ∨ ∃ host, Cond.methodLinkNest own idx y host ∈ lw_tbl) ∧ Cond.static y ∈ lw_tbl
  | .invokespecial idx => y.name = "<init>" ∧ (Cond.methodLink own idx y ∈ lw_tbl ∨ ∃ host, Cond.methodLinkNest own idx y host ∈ lw_tbl) ∧ Cond.instanceMethod y ∈ lw_tbl
  | _ => False
/-- what the receiver must be -/
def qk_rc (w : qk_W) (y : MethodName) : Instr → List Value → Prop
  | .invokevirtual _, .ref b :: _ => 16 ≤ b ∧ ∃ ci q fs, w b = some (.inr (ci, fs)) ∧ qcl[ci]? = some q ∧ q.1 = y.cls
  | .invokestatic _, _ => True
  | .invokespecial _, .ref _ :: _ => True
  | _, _ => False
def qk_np (M : qk_M) (ig : Instr) (n : Nat) : Bool := match parseMethodDescriptor M.1.desc with
  | some sg => match ig with
    | .invokestatic _ => n == sg.parameters.length
    | _ => n == sg.parameters.length + 1
  | none => false
