/-! ===== rules: catches ===== -/
theorem qk_go1 {E : CtlPost} {e : Env} {d : Bool} {acts : List Action} {s : State} {f : JFrame} {a : Addr} {Q : Handler → Pre} {x : ExceptionTableEntry} {t : List ExceptionTableEntry} {c : ClassId} {vm' : Vm} {cell : Cell} (hx : covers x f.pc = true) (h0 : x.catchType ≠ 0)
    (hg : (Jvm.resolveClass f.method.cls x.catchType).Gives e.toSetting s.vm (.ok c) vm') (hsz : vm'.classes.size ≤ s.vm.classes.size) (hcell : s.heap[a]? = some cell) (hobj : ∀ k, cell.vm ≠ .statics k) (hk : ∃ k, vm'.classes[cell.cls]? = some k) (hc : ∃ k, vm'.classes[c]? = some k) :
    wp (findHandler.go f a (x :: t)) Q E e d acts s ↔ if vm'.assignable cell.cls c = true then Q (.found x.handlerPc) d acts (s.setVm vm') else wp (findHandler.go f a t) Q E e d acts (s.setVm vm') := by
  simp only [covers] at hx
  obtain ⟨ha, ht⟩ := hg.op (op := VmOp.resolveClass f.method.cls x.catchType) rfl
  cases hfit : vm'.assignable cell.cls c <;>
    simp [findHandler.go, hx, h0, ha, ht, hsz, hcell, hobj, hk, hc, hfit, VmOp.dirties, VmOp.acts]
/-- the handler that takes an exception of class E thrown at pc -/
def qk_find (own E : String) (pc : Nat) : List (Nat × Nat × Nat × Nat) → Nat → Prop
  | [], _ => False
  | q :: t, hpc => (q.1 ≤ pc ∧ pc < q.2.1 ∧ q.2.2.2 ≠ 0 ∧ ∃ C, Cond.classLink own q.2.2.2 C ∈ lw_tbl ∧ ((C = E ∧ Cond.castable E E ∈ lw_tbl ∧ q.2.2.1 = hpc) ∨ ((E, C) ∈ qk_ncl ∧ qk_find own E pc t hpc)))
theorem qk_search {own E : String} {pc hpc : Nat} {e : Env} {s : State} {f : JFrame} {a : Addr} {cE : ClassId} (hpl : e.platform.magicAccessors = ({} : Platform).magicAccessors) (hws : qk_ws s) (hown : s.vm.findClass own = some f.method.cls) (hf : f.pc = pc) (hE : s.vm.findClass E = some cE) (hnc : ∀ q ∈ qk_ncl, va_Nc q.1 q.2 s) :
    ∀ (tab : List ExceptionTableEntry) (U : State), s.WarmedH U.vm → (∃ cell, U.heap[a]? = some cell ∧ (∀ k, cell.vm ≠ .statics k) ∧ cell.cls = cE) → qk_find own E pc (tab.map fun h => (h.startPc, h.endPc, h.handlerPc, h.catchType)) hpc →
      ∃ vm', s.WarmedH vm' ∧ ∀ (Q : Handler → Pre) (E' : CtlPost) (d : Bool) (acts : List Action), wp (findHandler.go f a tab) Q E' e d acts U ↔ Q (.found hpc) d acts (U.setVm vm') := by
  intro tab
  induction tab with
  | nil => intro U _ _ h; exact h.elim
  | cons x t ih =>
    intro U hW hcell h
    obtain ⟨h1, h2, h3, C, h4, h5⟩ := h
    obtain ⟨cell, hc1, hc2, hc3⟩ := hcell
    obtain ⟨cc, hfcc, hcl⟩ := Cond.classLink_spec hown (hws _ h4 rfl #[]) e.platform hpl
    obtain ⟨hg₁, hwarm₁, -⟩ := State.classEntry (e := e) hW hcl
    have hsz : (U.vm.noted f.method.cls x.catchType (.cls cc)).classes.size ≤ U.vm.classes.size := by rw [Vm.size_noted]; exact Nat.le_refl _
    generalize U.vm.noted f.method.cls x.catchType (.cls cc) = vm₁ at hg₁ hwarm₁ hsz
    have hk1 : ∃ k, vm₁.classes[cell.cls]? = some k := by
      rw [hc3]
      exact Vm.classAt_of_findClass (name := E) (by rw [hwarm₁.alike.findClass]; exact hE)
    have hk2 : ∃ k, vm₁.classes[cc]? = some k := Vm.classAt_of_findClass (name := C) (by rw [hwarm₁.alike.findClass]; exact hfcc)
    have hcov : covers x f.pc = true := by
      rw [hf]
      simp only [covers, Bool.and_eq_true, decide_eq_true_eq]
      exact ⟨h1, h2⟩
    rcases h5 with ⟨rfl, h6, h7⟩ | ⟨h6, h7⟩
    · refine ⟨vm₁, hwarm₁, fun Q E' d acts => ?_⟩
      obtain ⟨c3, c4, hc3', hc4, hasg⟩ := Cond.castable_spec (hws _ h6 rfl #[])
      have e1 : c3 = cE := Option.some.inj (hc3'.symm.trans hE)
      have e2 : c4 = cE := Option.some.inj (hc4.symm.trans hE)
      have e3 : cc = cE := Option.some.inj (hfcc.symm.trans hE)
      subst e1
      rw [e2] at hasg
      rw [qk_go1 hcov h3 hg₁ hsz hc1 hc2 hk1 hk2, if_pos (by rw [hwarm₁.alike.assignable, hc3, e3]; exact hasg)]
      rw [show x.handlerPc = hpc from h7]
    · obtain ⟨c5, t5, g1, g2, g3⟩ := hnc _ h6
      have e1 : c5 = cE := Option.some.inj (g1.symm.trans hE)
      have e2 : t5 = cc := Option.some.inj (g2.symm.trans hfcc)
      subst e1; subst e2
      obtain ⟨vm', hw', hh⟩ := ih (U.setVm vm₁) hwarm₁ ⟨cell, hc1, hc2, hc3⟩ h7
      refine ⟨vm', hw', fun Q E' d acts => ?_⟩
      rw [qk_go1 hcov h3 hg₁ hsz hc1 hc2 hk1 hk2, if_neg (by rw [hwarm₁.alike.assignable, hc3, g3]; decide)]
      exact hh Q E' d acts
theorem qk_caught {tb : Tables} {e : Env} {s target : State} {g : JFrame} {c : Code} {below : List Frame} {a : Addr} {pc : Nat} {vm' : Vm} (h : At s g.method c below)
    (hfind : ∀ (Q : Handler → Pre) (E : CtlPost) (d : Bool) (acts : List Action), wp (findHandler g a) Q E e d acts ((s.setTop g).pushFrame (.throwing a)) ↔ Q (.found pc) d acts (((s.setTop g).pushFrame (.throwing a)).setVm vm'))
    (hrest : Steps tb e below ((s.setVm vm').setTop { g with pc := pc, stack := [.ref a] }) target) : Steps tb e below ((s.setTop g).pushFrame (.throwing a)) target := by
  obtain ⟨hgo, hw⟩ := h.throwing a
  refine Steps.head hgo hw ?_
  have hstep : (stepThrowing e ((s.setTop g).pushFrame (.throwing a)) a (.java g :: s.frames.tail)).1 = (((s.setTop g).pushFrame (.throwing a)).setVm vm').setFrames (.java { g with pc := pc, stack := [.ref a] } :: s.frames.tail) := by
    simp only [stepThrowing, searchFrame, vmDo]
    generalize hr : Sem.go _ e false [] ((s.setTop g).pushFrame (.throwing a)) = res
    obtain ⟨as, rfl, ha⟩ := Sem.eq_ok_of hr (a := Handler.found pc) (s' := ((s.setTop g).pushFrame (.throwing a)).setVm vm') (acts' := []) (by simp [hfind _ _ _ _])
    rfl
  rw [stepThread_throwing (frames_entered h.top _), hstep]
  obtain ⟨g₀, hg⟩ := Option.isSome_iff_exists.mp h.top
  obtain ⟨r, hr⟩ := State.topJava?_eq_some.mp hg
  have hr' : (s.setVm vm').frames = .java g₀ :: r := hr
  rw [State.setTop_of_frames _ hr'] at hrest
  rw [hr]
  have e1 : (((s.setTop g).pushFrame (.throwing a)).setVm vm').setFrames (.java { g with pc := pc, stack := [.ref a] } :: (Frame.java g₀ :: r).tail) = (s.setVm vm').setFrames (.java { g with pc := pc, stack := [.ref a] } :: r) := by
    rw [State.pushFrame, State.setTop_of_frames _ hr, State.setFrames_setFrames]
    exact State.setFrames_setFrames (s.setVm vm') _ _
  rw [e1]
  exact hrest
section Catch
variable {d : Nat} {M M' : qk_M} {pc : Nat} {L : List (Option Value)} {st : List Value} {w : qk_W} {nc ns : Nat} {Q : Option Value ⊕ Nat → qk_W → Nat → Nat → Prop}
/-- a call from a place that handlers cover -/
theorem ev_callH {ig : Instr} {As st0 : List Value} (hd : decode M.2.1 pc = .ok (ig, 3)) (hM : qk_isM M') (hMi : M'.1.name = "<init>" → M'.2.2.2.2 = [] ∧ Cond.code M'.1 M'.2.1 M'.2.2.1 none ∈ lw_tbl) (hcw : qk_cw M.1.cls M'.1 ig) (hst0 : st0 = As.reverse ++ st) (hrc : qk_rc w M'.1 ig As) (hnp : qk_np M' ig As.length = true) (hln : (qk_en As).length ≤ M'.2.2.1) (hr8 : (st.map fun v => v.category).sum ≤ 8)
    (k : Ev d M' 0 (qk_ent M'.2.2.1 As) [] w nc ns (fun r w1 nc1 ns1 => match r with
      | .inl v => Ev (d + 1) M (pc + 3) L (v.toList ++ st) w1 nc1 ns1 Q
      | .inr x => ∃ ci q fs hpc, w1 x = some (.inr (ci, fs)) ∧ qcl[ci]? = some q ∧ qk_find M.1.cls q.1 pc M.2.2.2.2 hpc ∧ Ev (d + 1) M hpc L [.ref x] w1 nc1 ns1 Q)) : Ev (d + 1) M pc L st0 w nc ns Q := by
  subst hst0
  obtain ⟨r1, w1, kc1, ks1, hq1, hs1⟩ := k
  have hsplit : ∀ {ρ : Nat → Nat}, (As.reverse ++ st).map (qk_rv ρ) = (As.map (qk_rv ρ)).reverse ++ st.map (qk_rv ρ) := fun {ρ} => by rw [List.map_append, List.map_reverse]
  cases r1 with
  | inl v =>
    obtain ⟨r, w', kc, ks, hq, hs⟩ := hq1
    refine ⟨r, w', kc1 + kc, ks1 + ks, by rw [← Nat.add_assoc, ← Nat.add_assoc]; exact hq, ?_⟩
    intro p l e R s m args below meth c H locs cells slots G H0 ro ρ ls X hR hL hst hl hlo h1 h2 h3 h4 T hT Y
    have hA : ∀ x ∈ As, qk_ok w x := fun x hx => hst x (List.mem_append_left _ (List.mem_reverse.mpr hx))
    have hS : ∀ x ∈ st, qk_ok w x := fun x hx => hst x (List.mem_append_right _ hx)
    have hdc : decode c.code (F0 m pc ls ((As.reverse ++ st).map (qk_rv ρ))).pc = .ok (ig, 3) := by rw [X.1.2.1]; exact hd
    obtain ⟨mk, vm₁, hnamed, Y₁, hstep⟩ := qk_stpA X hM hMi Y hT hR hcw hrc hnp (g := F0 m pc ls ((As.reverse ++ st).map (qk_rv ρ))) rfl (rest := st.map (qk_rv ρ)) hsplit hdc
    obtain ⟨t, t1, o, ρ1, L1, b1, b2, ⟨b3, b3'⟩, b4, b5, b6, b7, b8, b9⟩ := qk_inner X hM Y₁ hT hR hs1 hA hln (g := F0 m pc ls (st.map (qk_rv ρ))) rfl (by rw [X.1.2.2.2.1]; exact hl.1) hdc (by show 2 * 0 + _ ≤ 8; rw [qk_cat8]; omega) hnamed (by omega) (by omega) (by omega) (by omega)
    subst b3
    obtain ⟨T', Y₂, c1, c2, c3⟩ := Y₁.outOf (g := F0 m pc ls (st.map (qk_rv ρ))) rfl hdc b2 b7 b8
    have hρ : ∀ v, w v ≠ none → ρ1 v = ρ v := fun v hv => (b4 v hv).1
    have hth : T'.heap = t.heap := by
      rw [c3]
      exact (State.heap_setTop _ _).symm
    obtain ⟨t2, d1, d2⟩ := hs p l e R s m args below meth c T'.heap _ _ _ G H0 ro ρ1 ls ⟨X.1, X.2.1, qk_Kup X.2.2.1 b5, X.2.2.2⟩ (by rw [hth]; exact b6) (fun q hq => qk_ok_mono (fun u hu => (b4 u hu).2) (hL q hq)) (fun x hx => by
      rcases List.mem_append.mp hx with h | h
      · cases v with
        | none => cases h
        | some y => rw [List.mem_singleton.mp h]; exact b3' y rfl
      · exact qk_ok_mono (fun u hu => (b4 u hu).2) (hS x h)) (by rw [qk_lmap_congr hρ hL]; exact hl) (fun q hq => by
      rcases List.mem_append.mp hq with h | h
      · exact hlo q h
      · exact b9 q h) h1 h2 (by omega) (by omega) T' rfl Y₂
    refine ⟨t2, hstep _ (fun acts => (t1 acts).trans ?_), ?_⟩
    · rw [c3]
      rw [qk_rs hρ v hS] at d1
      exact d1
    · have e1 : cells + (0 + kc1) + kc = cells + (kc1 + kc) := by omega
      have e2 : slots + (0 + ks1) + ks = slots + (ks1 + ks) := by omega
      rw [e1, e2] at d2
      exact qk_Em (fun u hu => b4 u hu) b5 d2
  | inr x =>
    obtain ⟨ci, qq, fs, hpc, hwx, hqc, hfd, r, w', kc, ks, hq, hs⟩ := hq1
    refine ⟨r, w', kc1 + kc, ks1 + ks, by rw [← Nat.add_assoc, ← Nat.add_assoc]; exact hq, ?_⟩
    intro p l e R s m args below meth c H locs cells slots G H0 ro ρ ls X hR hL hst hl hlo h1 h2 h3 h4 T hT Y
    have hA : ∀ x ∈ As, qk_ok w x := fun x hx => hst x (List.mem_append_left _ (List.mem_reverse.mpr hx))
    have hdc : decode c.code (F0 m pc ls ((As.reverse ++ st).map (qk_rv ρ))).pc = .ok (ig, 3) := by rw [X.1.2.1]; exact hd
    obtain ⟨mk, vm₁, hnamed, Y₁, hstep⟩ := qk_stpA X hM hMi Y hT hR hcw hrc hnp (g := F0 m pc ls ((As.reverse ++ st).map (qk_rv ρ))) rfl (rest := st.map (qk_rv ρ)) hsplit hdc
    obtain ⟨t, t1, o, ρ1, L1, b1, b2, ⟨b3, b3', b3''⟩, b4, b5, b6, b7, b8, b9⟩ := qk_inner X hM Y₁ hT hR hs1 hA hln (g := F0 m pc ls (st.map (qk_rv ρ))) rfl (by rw [X.1.2.2.2.1]; exact hl.1) hdc (by show 2 * 0 + _ ≤ 8; rw [qk_cat8]; omega) hnamed (by omega) (by omega) (by omega) (by omega)
    subst b3
    obtain ⟨T', Y₂, c1, c2, c3⟩ := Y₁.outOfThrown (g := F0 m pc ls (st.map (qk_rv ρ))) rfl b2 b7 b8
    have hth : T'.heap = t.heap := by
      rw [c3]
      exact (Stand.throwing_heap _ _ _).symm
    have hρ : ∀ v, w v ≠ none → ρ1 v = ρ v := fun v hv => (b4 v hv).1
    have hpl : e.platform.magicAccessors = ({} : Platform).magicAccessors := by rw [Y.admits.platform]
    have hat : va_at G.1 qcl (ρ1 x, qk_re ρ1 G.2 (.inr (ci, fs))) t.heap := (b6.2.2.1 x _ b3' hwx).2.1
    obtain ⟨r0, hr0, cellX, f1, f2, f3, -⟩ := hat
    have hm' : T'.vm.method? m = some meth := by rw [Y₂.warmed.alike.method?]; exact Y₂.method
    have hE : s.vm.findClass qq.1 = some (G.1.1 ci) := (X.2.2.1.1.1 ci qq hqc).2.1
    obtain ⟨vm', hw', hgo⟩ := qk_search (e := e) (f := F0 m pc ls (st.map (qk_rv ρ))) (a := ρ1 x) (pc := pc) (hpc := hpc) hpl X.2.2.1.2.1 X.1.2.2.2.2.1 rfl hE X.2.1.2.2.2 c.exceptionTable.toList ((T'.setTop (F0 m pc ls (st.map (qk_rv ρ)))).pushFrame (.throwing (ρ1 x))) (by rw [Stand.throwing_vm]; exact Y₂.warmed)
      ⟨cellX, by rw [Stand.throwing_heap, hth]; exact f1, (fun k h => by rw [f3] at h; cases h), f2⟩ (by rw [X.1.2.2.2.2.2.2.2]; exact hfd)
    have Y₃ := Y₂.noted hw'
    obtain ⟨t2, d1, d2⟩ := hs p l e R s m args below meth c T'.heap _ _ _ G H0 ro ρ1 ls ⟨X.1, X.2.1, qk_Kup X.2.2.1 b5, X.2.2.2⟩ (by rw [hth]; exact b6) (fun q hq => qk_ok_mono (fun u hu => (b4 u hu).2) (hL q hq)) (fun y hy => by rw [List.mem_singleton.mp hy]; exact b3'') (by rw [qk_lmap_congr hρ hL]; exact hl) (fun q hq => by
      rcases List.mem_append.mp hq with h | h
      · exact hlo q h
      · exact b9 q h) h1 h2 (by omega) (by omega) (T'.setVm vm') rfl Y₃
    refine ⟨t2, hstep _ (fun acts => (t1 acts).trans ?_), ?_⟩
    · rw [c3]
      refine qk_caught (g := F0 m pc ls (st.map (qk_rv ρ))) (c := c) Y₂.here (vm' := vm') (pc := hpc) (fun Q' E' d' acts' => ?_) d1
      rw [W.findHandler_eq (by rw [Stand.throwing_vm]; exact hm') Y₂.code]
      exact hgo Q' E' d' acts'
    · have e1 : cells + (0 + kc1) + kc = cells + (kc1 + kc) := by omega
      have e2 : slots + (0 + ks1) + ks = slots + (ks1 + ks) := by omega
      rw [e1, e2] at d2
      exact qk_Em (fun u hu => b4 u hu) b5 d2
end Catch
