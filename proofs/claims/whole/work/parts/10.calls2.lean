/-! ===== rules: calls, their own step ===== -/
theorem qk_stpV {M M' : qk_M} {w : qk_W} {As : List Value} {b idx : Nat} {p : Program} {l : Launch} {e : Env} {R : Room} {s : State} {m : MethodId} {args : Array Value} {below : List Frame} {meth : Method} {c : Code} {T : State} {H : Heap} {locs : List Loc} {cells slots : Nat} {G : qk_G} {H0 : Heap} {ro : qk_O} {ρ : Nat → Nat}
    (X : qk_X M p l s m meth c G H0 ro ρ) (hM : qk_isM M') (Y : Stand p l e R s m args below meth c T locs cells slots) (hT : T.heap = H) (hR : qk_R G H0 ro ρ w H) (hcw : qk_cw M.1.cls M'.1 (.invokevirtual idx)) (hrc : qk_rc w M'.1 (.invokevirtual idx) (.ref b :: As)) (hnp : qk_np M' (.invokevirtual idx) (As.length + 1) = true)
    {g : JFrame} (hg : g.method = m) {rest : List Value} (hstack : g.stack = (As.map (qk_rv ρ)).reverse ++ .ref (ρ b) :: rest) (hdg : decode c.code g.pc = .ok (.invokevirtual idx, 3)) :
    qk_stp p l e R s m args below meth c T locs cells slots M'.1 g rest (Value.ref (ρ b) :: As.map (qk_rv ρ)).toArray := by
  obtain ⟨w1, w2, w3⟩ := hcw
  have hws := X.2.2.1.2.1
  obtain ⟨mk, methM, hnamed, hmethM, hstM, habM⟩ := Cond.instanceMethod_spec (hws _ w2 rfl args)
  obtain ⟨methM', cM, a1, -, -, -, -, -, -, hsigM⟩ := qk_code hM hws hnamed
  cases hmethM.symm.trans a1
  obtain ⟨c2, r2, m2, q1, q2, q3, q4, kP, hkP, hkPi⟩ := Cond.selects_spec (hws _ w3 rfl args)
  obtain ⟨hb16, ci, q, fs, hb, hq, hqc⟩ := hrc
  obtain ⟨g1, g2, g3⟩ := hR.2.2.1 b _ hb16 hb
  obtain ⟨r0, hr0, cellB, f1, f2, f3, -⟩ := g2
  have hcls : s.vm.findClass M'.1.cls = some cellB.cls := by
    rw [← hqc, f2]
    exact (X.2.2.1.1.1 ci q hq).2.1
  cases hcls.symm.trans q1
  cases (State.methodFound?_of_named hnamed hM.2.2.1).symm.trans q2
  cases hnamed.symm.trans q3
  have hselP : selectMethod e.platform s.vm cellB.cls mk = .method mk := by rw [Launch.admits_selectMethod Y.admits]; exact q4
  have hlen : (As.map (qk_rv ρ)).length = methM.sig.parameters.length := by
    simp only [qk_np, hsigM, beq_iff_eq] at hnp
    rw [List.length_map]; omega
  obtain ⟨vm₁, X₁, hstep₁⟩ := Y.invokevirtual X.1.1 X.1.2.2.2.2.1 (hws _ w1 rfl args) hnamed hmethM hstM hkP hkPi hM.2.2.1 (a := ρ b) (cell := cellB) (by rw [hT]; exact f1)
    (fun z h => by rw [f3] at h; cases h) hselP hmethM habM hkP hkPi (g := g) hg (argsL := As.map (qk_rv ρ)) (rest := rest) hlen hstack hdg
  exact ⟨mk, vm₁, hnamed, X₁, hstep₁⟩
theorem qk_stpS {M M' : qk_M} {As : List Value} {idx : Nat} {p : Program} {l : Launch} {e : Env} {R : Room} {s : State} {m : MethodId} {args : Array Value} {below : List Frame} {meth : Method} {c : Code} {T : State} {locs : List Loc} {cells slots : Nat} {G : qk_G} {H0 : Heap} {ro : qk_O} {ρ : Nat → Nat}
    (X : qk_X M p l s m meth c G H0 ro ρ) (hM : qk_isM M') (Y : Stand p l e R s m args below meth c T locs cells slots) (hcw : qk_cw M.1.cls M'.1 (.invokestatic idx)) (hnp : qk_np M' (.invokestatic idx) As.length = true)
    {g : JFrame} (hg : g.method = m) {rest : List Value} (hstack : g.stack = (As.map (qk_rv ρ)).reverse ++ rest) (hdg : decode c.code g.pc = .ok (.invokestatic idx, 3)) :
    qk_stp p l e R s m args below meth c T locs cells slots M'.1 g rest (As.map (qk_rv ρ)).toArray := by
  obtain ⟨w1, w2⟩ := hcw
  have hws := X.2.2.1.2.1
  have hstt := hws _ w2 rfl args
  have hnm : ∃ mk, s.methodNamed? M'.1 = some mk := by
    rcases hM.1 with ⟨-, h1⟩ | h1
    · exact Cond.code_named (hws _ h1 rfl args)
    · obtain ⟨mk, _, _, h2, -⟩ := Cond.codeWith_spec (hws _ h1 rfl args)
      exact ⟨mk, h2⟩
  obtain ⟨mk, hnamed⟩ := hnm
  obtain ⟨methM, cM, hmethM, -, -, -, -, -, -, hsigM⟩ := qk_code hM hws hnamed
  have hstatic : methM.isStatic = true := Cond.static_spec hnamed hmethM hstt
  obtain ⟨kP, hkP, -⟩ := className_of_methodNamed hnamed
  have hinitP : kP.init = .initialized := Cond.initialized_spec (findClass_of_methodNamed hnamed) hkP (hws _ hM.2.2.2.1 rfl args)
  have hlen : (As.map (qk_rv ρ)).length = methM.sig.parameters.length := by
    simp only [qk_np, hsigM, beq_iff_eq] at hnp
    rw [List.length_map]; omega
  rcases w1 with w1 | ⟨host, w1⟩
  · obtain ⟨vm₁, X₁, hstep₁⟩ := Y.invokestatic X.1.1 X.1.2.2.2.2.1 (hws _ w1 rfl args) hnamed hmethM hstatic hkP hinitP hM.2.2.1 (g := g) hg (argsL := As.map (qk_rv ρ)) (rest := rest) hlen hstack hdg
    exact ⟨mk, vm₁, hnamed, X₁, hstep₁⟩
  · obtain ⟨vm₁, X₁, hstep₁⟩ := Y.invokestaticNest X.1.1 X.1.2.2.2.2.1 (hws _ w1 rfl args) hnamed hmethM hstatic hkP hinitP hM.2.2.1 (g := g) hg (argsL := As.map (qk_rv ρ)) (rest := rest) hlen hstack hdg
    exact ⟨mk, vm₁, hnamed, X₁, hstep₁⟩
theorem qk_stpI {M M' : qk_M} {As : List Value} {b idx : Nat} {p : Program} {l : Launch} {e : Env} {R : Room} {s : State} {m : MethodId} {args : Array Value} {below : List Frame} {meth : Method} {c : Code} {T : State} {locs : List Loc} {cells slots : Nat} {G : qk_G} {H0 : Heap} {ro : qk_O} {ρ : Nat → Nat}
    (X : qk_X M p l s m meth c G H0 ro ρ) (hM : qk_isM M') (hMn : M'.2.2.2.2 = [] ∧ Cond.code M'.1 M'.2.1 M'.2.2.1 none ∈ lw_tbl) (Y : Stand p l e R s m args below meth c T locs cells slots) (hcw : qk_cw M.1.cls M'.1 (.invokespecial idx)) (hnp : qk_np M' (.invokespecial idx) (As.length + 1) = true)
    {g : JFrame} (hg : g.method = m) {rest : List Value} (hstack : g.stack = (As.map (qk_rv ρ)).reverse ++ .ref (ρ b) :: rest) (hdg : decode c.code g.pc = .ok (.invokespecial idx, 3)) :
    qk_stp p l e R s m args below meth c T locs cells slots M'.1 g rest (Value.ref (ρ b) :: As.map (qk_rv ρ)).toArray := by
  obtain ⟨wi, w1, w2⟩ := hcw
  have hws := X.2.2.1.2.1
  subst hg
  have hpl : e.platform.magicAccessors = ({} : Platform).magicAccessors := by rw [Y.admits.platform]
  have hlen : ∀ sig, parseMethodDescriptor M'.1.desc = some sig → (As.map (qk_rv ρ)).length = sig.parameters.length := by
    intro sig h
    simp only [qk_np, h, beq_iff_eq] at hnp
    rw [List.length_map]; omega
  rcases w1 with w1 | ⟨host, w1⟩
  · obtain ⟨mk, methM, cM, kP, vm₁, hnamed, -, -, -, -, -, -, -, hW₁, hstep₁⟩ := Steps.initColdArgs (e := e) Y.here X.1.1 Y.warmed hpl X.1.2.2.2.2.1 wi hM.2.2.1 (hws _ w1 rfl args) (hws _ w2 rfl args) (hws _ hMn.2 rfl args) (f := g) rfl hlen hstack hdg
    exact ⟨mk, vm₁, hnamed, Y.noted hW₁, hstep₁⟩
  · obtain ⟨mk, methM, cM, kP, vm₁, hnamed, -, -, -, -, -, -, -, hW₁, hstep₁⟩ := Steps.initColdArgsNest (e := e) Y.here X.1.1 Y.warmed hpl X.1.2.2.2.2.1 wi hM.2.2.1 (hws _ w1 rfl args) (hws _ w2 rfl args) (hws _ hMn.2 rfl args) (f := g) rfl hlen hstack hdg
    exact ⟨mk, vm₁, hnamed, Y.noted hW₁, hstep₁⟩
/-- the three in one; As: all arguments, the receiver first -/
theorem qk_stpA {M M' : qk_M} {w : qk_W} {As : List Value} {ig : Instr} {p : Program} {l : Launch} {e : Env} {R : Room} {s : State} {m : MethodId} {args : Array Value} {below : List Frame} {meth : Method} {c : Code} {T : State} {H : Heap} {locs : List Loc} {cells slots : Nat} {G : qk_G} {H0 : Heap} {ro : qk_O} {ρ : Nat → Nat}
    (X : qk_X M p l s m meth c G H0 ro ρ) (hM : qk_isM M') (hMi : M'.1.name = "<init>" → M'.2.2.2.2 = [] ∧ Cond.code M'.1 M'.2.1 M'.2.2.1 none ∈ lw_tbl) (Y : Stand p l e R s m args below meth c T locs cells slots) (hT : T.heap = H) (hR : qk_R G H0 ro ρ w H) (hcw : qk_cw M.1.cls M'.1 ig) (hrc : qk_rc w M'.1 ig As) (hnp : qk_np M' ig As.length = true)
    {g : JFrame} (hg : g.method = m) {rest : List Value} (hstack : g.stack = (As.map (qk_rv ρ)).reverse ++ rest) (hdg : decode c.code g.pc = .ok (ig, 3)) :
    qk_stp p l e R s m args below meth c T locs cells slots M'.1 g rest (As.map (qk_rv ρ)).toArray := by
  cases ig with
  | invokevirtual idx =>
    match As, hrc with
    | .ref b :: As', hrc =>
      exact qk_stpV X hM Y hT hR hcw hrc hnp hg (by rw [hstack]; simp [qk_rv]) hdg
  | invokestatic idx => exact qk_stpS X hM Y hcw hnp hg hstack hdg
  | invokespecial idx =>
    match As, hrc with
    | .ref b :: As', hrc =>
      exact qk_stpI X hM (hMi hcw.1) Y hcw hnp hg (by rw [hstack]; simp [qk_rv]) hdg
  | _ => exact hcw.elim
section Call
variable {d : Nat} {M M' : qk_M} {pc : Nat} {L : List (Option Value)} {st : List Value} {w : qk_W} {nc ns : Nat} {Q : Option Value ⊕ Nat → qk_W → Nat → Nat → Prop}
theorem qk_rs {ρ ρ1 : Nat → Nat} {w : qk_W} (h : ∀ v, w v ≠ none → ρ1 v = ρ v) (v : Option Value) {st : List Value} (hst : ∀ x ∈ st, qk_ok w x) : (v.toList ++ st).map (qk_rv ρ1) = (v.map (qk_rv ρ1)).toList ++ st.map (qk_rv ρ) := by
  rw [List.map_append, qk_map_congr h hst]
  cases v <;> rfl
/-- a call from a place that no handler covers -/
theorem ev_call {ig : Instr} {As st0 : List Value} (hd : decode M.2.1 pc = .ok (ig, 3)) (hM : qk_isM M') (hMi : M'.1.name = "<init>" → M'.2.2.2.2 = [] ∧ Cond.code M'.1 M'.2.1 M'.2.2.1 none ∈ lw_tbl) (hcw : qk_cw M.1.cls M'.1 ig) (hh : M.2.2.2.2 = []) (hst0 : st0 = As.reverse ++ st) (hrc : qk_rc w M'.1 ig As) (hnp : qk_np M' ig As.length = true) (hln : (qk_en As).length ≤ M'.2.2.1) (hr8 : (st.map fun v => v.category).sum ≤ 8)
    (k : Ev d M' 0 (qk_ent M'.2.2.1 As) [] w nc ns (fun r w1 nc1 ns1 => match r with
      | .inl v => Ev (d + 1) M (pc + 3) L (v.toList ++ st) w1 nc1 ns1 Q
      | .inr x => Q (.inr x) w1 nc1 ns1)) : Ev (d + 1) M pc L st0 w nc ns Q := by
  subst hst0
  obtain ⟨r1, w1, kc1, ks1, hq1, hs1⟩ := k
  have hsplit : ∀ {ρ : Nat → Nat}, (As.reverse ++ st).map (qk_rv ρ) = (As.map (qk_rv ρ)).reverse ++ st.map (qk_rv ρ) := fun {ρ} => by rw [List.map_append, List.map_reverse]
  cases r1 with
  | inl v =>
    obtain ⟨r, w', kc, ks, hq, hs⟩ := hq1
    refine ⟨r, w', kc1 + kc, ks1 + ks, by rw [← Nat.add_assoc, ← Nat.add_assoc]; exact hq, ?_⟩
    intro p l e R s m args below meth c H locs cells slots G H0 ro ρ ls X hR hL hst hl hlo h1 h2 h3 h4 T hT Y
    have hA : ∀ x ∈ As, qk_ok w x := fun x hx => hst x (List.mem_append_left _ (List.mem_reverse.mpr hx))
    have hS : ∀ x ∈ st, qk_ok w x := fun x hx => hst x (List.mem_append_right _ hx)
    have hdc : decode c.code (F0 m pc ls ((As.reverse ++ st).map (qk_rv ρ))).pc = .ok (ig, 3) := by rw [X.1.2.1]; exact hd
    obtain ⟨mk, vm₁, hnamed, Y₁, hstep⟩ := qk_stpA X hM hMi Y hT hR hcw hrc hnp (g := F0 m pc ls ((As.reverse ++ st).map (qk_rv ρ))) rfl (rest := st.map (qk_rv ρ)) hsplit hdc
    obtain ⟨t, t1, o, ρ1, L1, b1, b2, ⟨b3, b3'⟩, b4, b5, b6, b7, b8, b9⟩ := qk_inner X hM Y₁ hT hR hs1 hA hln (g := F0 m pc ls (st.map (qk_rv ρ))) rfl (by rw [X.1.2.2.2.1]; exact hl.1) hdc (by show 2 * 0 + _ ≤ 8; rw [qk_cat8]; omega) hnamed (by omega) (by omega) (by omega) (by omega)
    subst b3
    obtain ⟨T', Y₂, c1, c2, c3⟩ := Y₁.outOf (g := F0 m pc ls (st.map (qk_rv ρ))) rfl hdc b2 b7 b8
    have hρ : ∀ v, w v ≠ none → ρ1 v = ρ v := fun v hv => (b4 v hv).1
    have hth : T'.heap = t.heap := by
      rw [c3]
      exact (State.heap_setTop _ _).symm
    obtain ⟨t2, d1, d2⟩ := hs p l e R s m args below meth c T'.heap _ _ _ G H0 ro ρ1 ls ⟨X.1, X.2.1, qk_Kup X.2.2.1 b5, X.2.2.2⟩ (by rw [hth]; exact b6) (fun q hq => qk_ok_mono (fun u hu => (b4 u hu).2) (hL q hq)) (fun x hx => by
      rcases List.mem_append.mp hx with h | h
      · cases v with
        | none => cases h
        | some y => rw [List.mem_singleton.mp h]; exact b3' y rfl
      · exact qk_ok_mono (fun u hu => (b4 u hu).2) (hS x h)) (by rw [qk_lmap_congr hρ hL]; exact hl) (fun q hq => by
      rcases List.mem_append.mp hq with h | h
      · exact hlo q h
      · exact b9 q h) h1 h2 (by omega) (by omega) T' rfl Y₂
    refine ⟨t2, hstep _ (fun acts => (t1 acts).trans ?_), ?_⟩
    · rw [c3]
      rw [qk_rs hρ v hS] at d1
      exact d1
    · have e1 : cells + (0 + kc1) + kc = cells + (kc1 + kc) := by omega
      have e2 : slots + (0 + ks1) + ks = slots + (ks1 + ks) := by omega
      rw [e1, e2] at d2
      exact qk_Em (fun u hu => b4 u hu) b5 d2
  | inr x =>
    refine ⟨.inr x, w1, kc1, ks1, hq1, ?_⟩
    intro p l e R s m args below meth c H locs cells slots G H0 ro ρ ls X hR hL hst hl hlo h1 h2 h3 h4 T hT Y
    have hA : ∀ x ∈ As, qk_ok w x := fun x hx => hst x (List.mem_append_left _ (List.mem_reverse.mpr hx))
    have hdc : decode c.code (F0 m pc ls ((As.reverse ++ st).map (qk_rv ρ))).pc = .ok (ig, 3) := by rw [X.1.2.1]; exact hd
    obtain ⟨mk, vm₁, hnamed, Y₁, hstep⟩ := qk_stpA X hM hMi Y hT hR hcw hrc hnp (g := F0 m pc ls ((As.reverse ++ st).map (qk_rv ρ))) rfl (rest := st.map (qk_rv ρ)) hsplit hdc
    obtain ⟨t, t1, o, ρ1, L1, b1, b2, ⟨b3, b3', b3''⟩, b4, b5, b6, b7, b8, b9⟩ := qk_inner X hM Y₁ hT hR hs1 hA hln (g := F0 m pc ls (st.map (qk_rv ρ))) rfl (by rw [X.1.2.2.2.1]; exact hl.1) hdc (by show 2 * 0 + _ ≤ 8; rw [qk_cat8]; omega) hnamed (by omega) (by omega) (by omega) (by omega)
    subst b3
    obtain ⟨T', Y₂, c1, c2, c3⟩ := Y₁.outOfThrown (g := F0 m pc ls (st.map (qk_rv ρ))) rfl b2 b7 b8
    have hth : T'.heap = t.heap := by
      rw [c3]
      exact (Stand.throwing_heap _ _ _).symm
    have hex : c.exceptionTable.toList = [] := by
      have h5 := X.1.2.2.2.2.2.2.2
      rw [hh] at h5
      exact List.map_eq_nil_iff.mp h5
    obtain ⟨l1, l2, l3, l4, l5⟩ := Y₂.leaveThrown (ρ1 x) (g := F0 m pc ls (st.map (qk_rv ρ))) rfl rfl rfl (fun y hy => by rw [hex] at hy; cases hy) X.1.2.2.2.2.2.1
    refine ⟨_, hstep _ (fun acts => (t1 acts).trans (by rw [c3]; exact l1)), .threw (ρ1 x), ρ1, locs ++ L1, l2, l3, ⟨rfl, b3', b3''⟩, b4, b5, ?_, l4, ?_, fun q hq => ?_⟩
    · show qk_R G H0 ro ρ1 w1 T'.heap
      rw [hth]; exact b6
    · have e1 : cells + (0 + kc1) = cells + kc1 := by omega
      have e2 : slots + (0 + ks1) = slots + ks1 := by omega
      rw [e1, e2] at l5
      exact l5
    · rcases List.mem_append.mp hq with h | h
      · exact hlo q h
      · exact b9 q h
end Call
