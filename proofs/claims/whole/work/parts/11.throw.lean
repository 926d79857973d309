/-! ===== rules: throw new E(text) ===== -/
theorem qk_rebase {p : Program} {l : Launch} {e : Env} {R : Room} {s : State} {m : MethodId} {args : Array Value} {below : List Frame} {meth : Method} {c : Code} {T : State} {locs : List Loc} {cells slots : Nat} (Y : Stand p l e R s m args below meth c T locs cells slots) (hc : cells ≤ R.cells) (hs : slots ≤ R.slots) :
    Stand p l e { frames := R.frames, cells := R.cells - cells, slots := R.slots - slots, locals := R.locals } (T.setFrames (.invoking m args :: below)) m args below meth c T [] 0 0 := by
  obtain ⟨g₀, hfr⟩ := Y.frames_eq
  have hcur : T.cur < T.threads.size := State.cur_lt_of_frames hfr
  obtain ⟨th, hth, -⟩ := State.frames_cons hfr
  have hf' : (T.setFrames (.invoking m args :: below)).frames = .invoking m args :: below := State.frames_setFrames _ hcur
  have hm' : T.vm.method? m = some meth := by rw [Y.warmed.alike.method?]; exact Y.method
  have hme : (T.setFrames (.invoking m args :: below)).me.stackBytes = T.me.stackBytes := State.stackBytes_setFrames T _
  have hli : e.platform.stackLimits (T.setFrames (.invoking m args :: below)).me = e.platform.stackLimits T.me := State.stackLimits_setFrames e.platform T _
  refine ⟨Y.admits, Y.cas, Y.clock, hf', ?_, ?_, hm', Y.code, Y.here, Y.tail, State.WarmedH.refl (T.setFrames (.invoking m args :: below)), hli.symm, hme.symm, ?_⟩
  · have h0 := Y.room
    have h1 := Y.heapSize
    have h2 := Y.used
    have h3 := Y.book
    have e1 := State.localsInUse_invoking Y.frames Y.method Y.code
    have e2 := State.localsInUse_invoking hf' (show (T.setFrames (.invoking m args :: below)).vm.method? m = some meth from hm') Y.code
    have e3 : (T.setFrames (.invoking m args :: below)).heap = T.heap := rfl
    have e4 : (T.setFrames (.invoking m args :: below)).slotsUsed = T.slotsUsed := rfl
    have e5 : (T.setFrames (.invoking m args :: below)).slotsTrue = T.slotsTrue := rfl
    have e6 := Y.frames
    simp only [State.hasRoom, Bool.and_eq_true, decide_eq_true_eq] at h0 ⊢
    rw [hf', hme, hli, e2, e3, e4, e5, Y.limits, Y.bytes]
    rw [e6, e1] at h0
    refine ⟨⟨⟨⟨?_, ?_, ?_, ?_, ?_, ?_⟩, ?_⟩, ?_⟩, h3⟩
    · exact h0.1.1.1.1
    · exact h0.1.1.1.2.1
    · exact h0.1.1.1.2.2.1
    · exact h0.1.1.1.2.2.2.1
    · exact h0.1.1.1.2.2.2.2.1
    · exact h0.1.1.1.2.2.2.2.2
    · have := h0.1.1.2; omega
    · have := h0.1.2; omega
  · have h0 := Y.hears
    cases below with
    | nil => simpa [State.hears, hm', Y.method, State.setFrames] using h0
    | cons f r =>
      cases f with
      | java g =>
        simp only [State.hears] at h0 ⊢
        have : (T.setFrames (.invoking m args :: .java g :: r)).code? g.method = s.code? g.method := by
          rw [State.code?_eq, State.code?_eq]
          show (T.vm.method? g.method).bind _ = _
          rw [Y.warmed.alike.method?]
        rw [this]; exact h0
      | native _ => rfl
      | proc _ => rfl
      | _ => simpa [State.hears, hm', Y.method, State.setFrames] using h0
  · obtain ⟨th', hth', -⟩ := State.frames_cons hf'
    have h := (State.sameButNew.refl (T.setFrames (.invoking m args :: below)) hth').setFrames T.frames (by simpa [State.setFrames] using hcur)
    rw [State.setFrames_setFrames, State.setFrames_self hth] at h
    exact h
def qk_xn : List String := ["java/lang/RuntimeException", "java/lang/Exception"]
def qk_xa (a : Cond) : Bool := (decide (a ∈ lw_tbl) && qk_gw a) || decide (a = .laysStatic "java/lang/Throwable" "UNASSIGNED_STACK" "[Ljava/lang/StackTraceElement;") || decide (a = .laysStatic "java/lang/Throwable" "SUPPRESSED_SENTINEL" "Ljava/util/List;") || decide (a = .isRef (.static "java/lang/Throwable" "UNASSIGNED_STACK" "[Ljava/lang/StackTraceElement;")) || decide (a = .isRef (.static "java/lang/Throwable" "SUPPRESSED_SENTINEL" "Ljava/util/List;"))
/-- the words of 'throw new E(text)' -/
def qk_xw (own : String) (ie is ic ciE : Nat) (E text : String) : Prop :=
  qcl[ciE]? = some (E, qT_E, 0) ∧ Cond.classLink own ie E ∈ lw_tbl ∧ Cond.instantiable E 6 ∈ lw_tbl ∧ Cond.initialized E ∈ lw_tbl ∧ Cond.stringRef own is text ∈ lw_tbl ∧ Bundle.fit E = true ∧ (Bundle.ownAtoms own ic E qk_xn).all qk_xa = true
theorem ev_throw {d : Nat} {M : qk_M} {pc : Nat} {L : List (Option Value)} {w : qk_W} {nc ns : Nat} {Q : Option Value ⊕ Nat → qk_W → Nat → Nat → Prop} {ie is ic ciE : Nat} {E text : String} (v : Nat)
    (hd0 : decode M.2.1 pc = .ok (.new ie, 3)) (hd3 : decode M.2.1 (pc + 3) = .ok (.dup, 1)) (hd4 : decode M.2.1 (pc + 3 + 1) = .ok (.ldc is, 2)) (hd6 : decode M.2.1 (pc + 3 + 1 + 2) = .ok (.invokespecial ic, 3)) (hd9 : decode M.2.1 (pc + 3 + 1 + 2 + 3) = .ok (.athrow, 1))
    (hx : qk_xw M.1.cls ie is ic ciE E text) (hh : M.2.2.2.2 = []) (h6 : 6 ≤ d) (hv : 16 ≤ v) (hn : w v = none) (hq : Q (.inr v) (qk_set w v (.inr (ciE, []))) (nc + 1) (ns + 6)) : Ev d M pc L [] w nc ns Q := by
  refine ⟨.inr v, qk_set w v (.inr (ciE, [])), 1, 6, hq, ?_⟩
  intro p l e R s m args below meth c H locs cells slots G H0 ro ρ ls X hR hL hst hl hlo h1 h2 h3 h4 T hT Y
  obtain ⟨hc, x1, x2, x3, x4, x5, x6⟩ := hx
  have Y0 := qk_rebase Y (by omega) (by omega)
  have hsv : (T.setFrames (.invoking m args :: below)).vm = T.vm := rfl
  have hsh : (T.setFrames (.invoking m args :: below)).heap = H := hT
  have hws : qk_ws (T.setFrames (.invoking m args :: below)) := qk_warm (by rw [hsv]; exact Y.warmed) X.2.2.1.2.1
  have hown : (T.setFrames (.invoking m args :: below)).vm.findClass M.1.cls = some m.cls := by rw [hsv, Y.warmed.alike.findClass]; exact X.1.2.2.2.2.1
  have hex : c.exceptionTable.toList = [] := by
    have h5 := X.1.2.2.2.2.2.2.2
    rw [hh] at h5
    exact List.map_eq_nil_iff.mp h5
  have htr : e.platform.stackTraces = false := by
    have h5 : e.platform.stackTraces = l.stackTraces := by rw [Y.admits.platform]
    rw [h5]; exact X.2.1.1
  have hkeep : ∀ q, q < H0.size → (T.setFrames (.invoking m args :: below)).heap[q]? = H0[q]? := fun q hq => by rw [hsh]; exact hR.1.2.1 q hq
  have hsf : ∀ n d, qk_sf n d s H0 → qk_sf n d (T.setFrames (.invoking m args :: below)) (T.setFrames (.invoking m args :: below)).heap := by
    intro n d h
    obtain ⟨c1, k1, i1, fd1, a1, cell1, v1, g1, g2, g3, g4, g5, g6⟩ := h.moved (U := T.setFrames (.invoking m args :: below)) (by rw [hsv]; exact Y.warmed.alike)
    exact ⟨c1, k1, i1, fd1, a1, cell1, v1, g1, g2, g3, g4, by rw [hkeep a1 (Array.getElem?_eq_some_iff.mp g5).1]; exact g5, g6⟩
  have hat : ∀ a ∈ Bundle.ownAtoms M.1.cls ic E qk_xn, a.before args (T.setFrames (.invoking m args :: below)) = true := by
    intro a ha
    have h5 := List.all_eq_true.mp x6 a ha
    simp only [qk_xa, Bool.or_eq_true, Bool.and_eq_true, decide_eq_true_eq] at h5
    rcases h5 with (((⟨h5, h5'⟩ | rfl) | rfl) | rfl) | rfl
    · exact hws a h5 h5' args
    · exact (hsf _ _ X.2.1.2.1).lays
    · exact (hsf _ _ X.2.1.2.2.1).lays
    · exact (hsf _ _ X.2.1.2.1).isRef
    · exact (hsf _ _ X.2.1.2.2.1).isRef
  obtain ⟨vm₁, cX, kX, hfX, hkX, -, -, Y1, st1⟩ := Y0.newCold X.1.1 (own := M.1.cls) (C := E) (index := ie) (n := 6) hown (hws _ x1 rfl args) (hws _ x2 rfl args) (hws _ x3 rfl args) (g := F0 m pc ls []) rfl (by rw [X.1.2.1]; exact hd0) (by show 0 + 1 ≤ R.cells - cells; omega) (by show 0 + 6 ≤ R.slots - slots; omega)
  have hA : T.heap.size = H.size := by rw [hT]
  generalize hT1 : (T.setVm vm₁).pushCell { cls := cX, slots := kX.instanceTypes.map defaultValue, vm := .none } = T1 at Y1 st1
  have hcellA : T1.heap[T.heap.size]? = some (freshCell cX kX) := by rw [← hT1]; exact State.heap_pushCell_size _ _
  have K : W p l e { frames := R.frames, cells := R.cells - cells, slots := R.slots - slots, locals := R.locals } (T.setFrames (.invoking m args :: below)) m args below meth c T1.heap [] (0 + 1) (0 + 6) (qk_E G H0 ro ρ w s below (.inr v) (qk_set w v (.inr (ciE, []))) (cells + 1) (slots + 6)) (F0 m (pc + 3) ls [.ref T.heap.size]) := by
    refine lv_dup X.1.1 X.1.2.1 hd3 rfl ?_
    intro T2 hT2 Y2
    have hconst := hws _ x4 rfl args
    obtain ⟨-, -, -, sa, -, -, -, -, -, hev⟩ := Cond.stringRef_spec hown hconst
    obtain ⟨U, hsteps, hrun, hend, hW, hsame, ce, hce, K⟩ := Y2.ctorThrowS X.1.1 htr (own := M.1.cls) (cls := E) (names := qk_xn) (ic := ic) hown x5 (by decide +kernel)
      hat (fun y hy => by cases hy) hfX hkX (by rw [hT2]; exact hcellA) (Nat.le_refl _) (msg := .ref sa) rfl
      (g := F0 m (pc + 3 + 1 + 2) ls [.ref sa, .ref T.heap.size, .ref T.heap.size]) rfl (by rw [X.1.2.2.2.1]; exact hl.1) rfl rfl (rest := []) rfl
      (by rw [X.1.2.1]; exact hd6) (by rw [X.1.2.1]; exact hd9) (fun y hy => by rw [hex] at hy; cases hy) (by show 2 + 3 < R.frames; omega) (by show 2 * 0 + (1 + 0) + (13 * (2 + 1) + 42) ≤ R.locals; omega) X.1.2.2.2.2.2.1
    obtain ⟨e2, q2, q3, q4, q5, q6⟩ := id hsame
    have hold : ∀ (q : Nat) (cell : Cell), H[q]? = some cell → U.heap[q]? = some cell := by
      intro q cell hq
      obtain ⟨c', g1, g2, g3, g4⟩ := q6 q cell (by rw [hsh]; exact hq)
      have : c' = cell := by
        rw [g2]
        have : c'.slots = cell.slots := Array.ext_getElem? (fun i => g4 i (fun h => by cases h))
        rw [this]
      rw [← this]; exact g1
    have hlt : T.heap.size < U.heap.size := (Array.getElem?_eq_some_iff.mp hce).1
    have hz : U.heap.size = H.size + 1 := by
      have h5 : U.heap.size ≤ (T.setFrames (.invoking m args :: below)).heap.size + (0 + 1) := q3
      rw [hsh] at h5
      omega
    have oq : ∀ q, q < H.size → U.heap[q]? = H[q]? := by
      intro q hq
      rw [Array.getElem?_eq_getElem hq]
      exact hold q _ (Array.getElem?_eq_getElem hq)
    have hup := qk_up_dom (ρ := ρ) (n := H.size) hn
    have h16 : ∀ u, u < 16 → va_up ρ v H.size u = ρ u := fun u hu => by simp [va_up, show u ≠ v by omega]
    refine ⟨U, ?_, .threw T.heap.size, va_up ρ v H.size, locs, hrun, hend, ⟨?_, hv, by rw [qk_set_eq]; exact fun h => by cases h⟩, fun u hu => ⟨hup u hu, qk_set_some hu⟩, h16, ?_, State.WarmedH.trans Y.warmed hW, ?_, hlo⟩
    · exact Y2.ldcString X.1.1 (own := M.1.cls) (text := text) (index := is) (a := sa) hown hconst hev (g := F0 m (pc + 3 + 1) ls [.ref T.heap.size, .ref T.heap.size]) rfl (by rw [X.1.2.1]; exact hd4) _ hsteps
    · rw [hA]; simp [va_up]
    · refine qk_Rnew hR hv hn hz oq ⟨_, hc, ce, by rw [← hA]; exact hce, ?_, K.vm, fun k hk => by cases hk⟩ (fun x hx => by cases hx)
      have h5 := (X.2.2.1.1.1 ciE _ hc).2.1
      have h7 := K.cls
      rw [hsv, Y.warmed.alike.findClass] at h7
      exact Option.some.inj (h7.symm.trans h5)
    · have eU : U = ({ T.setFrames U.frames with heap := U.heap, slotsUsed := U.slotsUsed } : State).setVm U.vm := by
        have h5 : U = ({ U with vm := (T.setFrames (.invoking m args :: below)).vm } : State).setVm U.vm := rfl
        rw [e2, State.setFrames_setFrames] at h5
        exact h5
      have hB : (T.setVm s.vm).sameButNew ({ U with vm := s.vm } : State) [] (0 + 1) (0 + 6) := ⟨congrArg (fun z : State => ({ z with vm := s.vm } : State)) eU, q2, q3, q4, q5, q6⟩
      have h5 := Y.same.trans hB
      rw [List.append_nil] at h5
      exact h5
  obtain ⟨t, t1, t2⟩ := K T1 rfl Y1
  exact ⟨t, st1 t t1, t2⟩
