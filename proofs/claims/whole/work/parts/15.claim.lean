/-! ===== the claim out of one Ev of the law's body (after the skeleton, with the launch's flag and the law's own table) ===== -/
def lw_P (b : Addr) (xs : List Int32) (args : Array Value) (s : State) : Prop := args = #[.ref b] ∧ s.IntsAt b xs ∧ xs.length ≤ 3072 ∧ (Jvm.Cond.and given_1 narrow_1).before args s = true
def lw_Q (_ : Array Value) (s : State) (o : Outcome) (t : State) : Prop := o = .returned (some (.int 1)) ∧ Framed s o t [] 601024 7293034
/-- what is wanted of the law's body -/
def qk_goal : Prop := ∀ (n : Nat) (xs : Nat → Int32), n ≤ 3072 → Ev 12 m_La_law 0 [some (.ref 0), none, none, none, none, none, none] [] (qk_w0 n xs) 0 0 (fun r _ nc ns => r = .inl (some (.int 1)) ∧ nc ≤ 601024 ∧ ns ≤ 7293034)
theorem qk_forget {s t : State} {L : List Loc} {k n K N : Nat} (h : s.sameButNew t L k n) (hL : ∀ q ∈ L, s.heap.size ≤ q.base) (hk : k ≤ K) (hn : n ≤ N) : s.sameButNew t [] K N := by
  obtain ⟨e1, q2, q3, q4, q5, q6⟩ := h
  refine ⟨e1, q2, by omega, q4, by omega, fun a c hc => ?_⟩
  obtain ⟨c', g1, g2, g3, g4⟩ := q6 a c hc
  refine ⟨c', g1, g2, g3, fun i _ => g4 i (fun hm => ?_)⟩
  have h1 := hL _ hm
  have h2 : a < s.heap.size := (Array.getElem?_eq_some_iff.mp hc).1
  exact absurd h2 (Nat.not_lt.mpr h1)
theorem qk_w0_none {n : Nat} {xs : Nat → Int32} {v : Nat} (h : 16 ≤ v) : qk_w0 n xs v = none := by
  obtain ⟨k, rfl⟩ : ∃ k, v = k + 3 := ⟨v - 3, by omega⟩
  rfl
theorem qk_flat_wid : ∀ j, j < 10 → Cond.eq (.elem (.static "QuakeLink" "WIDTHS" "[I") (.int (Int32.ofNat j))) (.int (qk_wid.getD j 0)) ∈ flatC (Jvm.Cond.and given_1 narrow_1) := by decide +kernel
theorem qk_flat_chk : ∀ j, j < 16 → Cond.eq (.elem (.static "QuakeLink" "CHECK_STEPS" "[I") (.int (Int32.ofNat j))) (.int (qk_chk.getD j 0)) ∈ flatC (Jvm.Cond.and given_1 narrow_1) := by decide +kernel
theorem qk_flat_nc : ∀ q ∈ qk_ncl, Cond.not (.castable q.1 q.2) ∈ flatC (Jvm.Cond.and given_1 narrow_1) := by decide +kernel
theorem qk_flat_o : Cond.arrayOf (.static "QuakeLink" "WIDTHS" "[I") .int ∈ flatC (Jvm.Cond.and given_1 narrow_1) ∧ Cond.arrayOf (.static "QuakeLink" "CHECK_STEPS" "[I") .int ∈ flatC (Jvm.Cond.and given_1 narrow_1) ∧ Cond.eq (.length (.static "QuakeLink" "WIDTHS" "[I")) (.int (Int32.ofNat 10)) ∈ flatC (Jvm.Cond.and given_1 narrow_1) ∧ Cond.eq (.length (.static "QuakeLink" "CHECK_STEPS" "[I")) (.int (Int32.ofNat 16)) ∈ flatC (Jvm.Cond.and given_1 narrow_1) ∧
  Cond.isRef (.static "java/lang/Throwable" "UNASSIGNED_STACK" "[Ljava/lang/StackTraceElement;") ∈ flatC (Jvm.Cond.and given_1 narrow_1) ∧ Cond.isRef (.static "java/lang/Throwable" "SUPPRESSED_SENTINEL" "Ljava/util/List;") ∈ flatC (Jvm.Cond.and given_1 narrow_1) := by decide +kernel
theorem qk_lsw : Cond.laysStatic "QuakeLink" "WIDTHS" "[I" ∈ lw_tbl ∧ Cond.laysStatic "QuakeLink" "CHECK_STEPS" "[I" ∈ lw_tbl ∧ Cond.laysStatic "java/lang/Throwable" "UNASSIGNED_STACK" "[Ljava/lang/StackTraceElement;" ∈ lw_tbl ∧ Cond.laysStatic "java/lang/Throwable" "SUPPRESSED_SENTINEL" "Ljava/util/List;" ∈ lw_tbl ∧ Cond.initialized "QuakeLink" ∈ lw_tbl := by decide +kernel
set_option maxHeartbeats 4000000 in
theorem lw_walk (HEv : qk_goal) (l : Launch) (hfl : l.stackTraces = false) (b : Addr) (xs : List Int32) : MetFree l x (headSpec (Jvm.Cond.code x code maxLocals ret :: tables_1) room_1) (lw_P b xs) (fun _ _ _ _ _ => True) lw_Q := by
  refine MetFree.of_bodyS (code := code) (maxLocals := maxLocals) (ret := ret) (by decide) ?_ ?_
  · intro args s m h hn
    obtain ⟨meth, c, h1, h2, h3, h4, h5, h6, -, -⟩ := Cond.code_spec hn (atoms_spec (ws := Jvm.Cond.code x code maxLocals ret :: tables_1) h _ List.mem_cons_self)
    exact ⟨meth, c, h1, h2, h3, h4, h5, h6⟩
  · intro p e s m args below meth c s₁ B hml0 hP _
    obtain ⟨rfl, hx, hbd, hgv⟩ := hP
    obtain ⟨scr, harrAt, hlist, hof, hsmall⟩ := hx
    obtain ⟨hcb, hkn, -, -⟩ := State.arrayAt?_spec harrAt
    have hts0 : ∀ c ∈ (Jvm.Cond.code x code maxLocals ret :: tables_1), c.before #[Value.ref b] s = true := atoms_spec (ws := Jvm.Cond.code x code maxLocals ret :: tables_1) B.pre
    have hts : ∀ w ∈ lw_tbl, w.before #[Value.ref b] s = true := k2_hts_sels lw_privs (fun w hw => hts0 w (List.mem_cons_of_mem _ hw)) lw_privs_ok
    have X₀ : Stand p l e room_1 s m #[Value.ref b] below meth c s₁ [] 0 0 := Stand.of_body B
    have hh0 : s₁.heap = s.heap := by rw [B.state]; rfl
    have hsz : scr.slots.size = xs.length := by rw [← Array.length_toList, hlist, List.length_map]
    have hval : ∀ j : Nat, j < xs.length → scr.slots[j]? = some (.int (xs.getD j 0)) := fun j hj => by
      rw [← Array.getElem?_toList, hlist]
      simp [hj]
    have hbl : b < s.heap.size := (Array.getElem?_eq_some_iff.mp hcb).1
    have hws := qk_ws0 hts
    have hfl2 := flat_of_before _ hgv
    obtain ⟨D, hD⟩ := qk_D hws
    obtain ⟨E, hE⟩ := qk_Ety hws
    obtain ⟨l1, l2, l3, l4, l5⟩ := qk_lsw
    obtain ⟨o1, o2, o3, o4, o5, o6⟩ := qk_flat_o
    obtain ⟨tW, w1, w2, w3⟩ := qk_stat (f := "WIDTHS") (N := 10) (tab := qk_wid) (by decide) (hts _ l1) (hts _ l5) (hfl2 _ o1) (hfl2 _ o3) (fun j hj => hfl2 _ (qk_flat_wid j hj))
    obtain ⟨tC, c1, c2, c3⟩ := qk_stat (f := "CHECK_STEPS") (N := 16) (tab := qk_chk) (by decide) (hts _ l2) (hts _ l5) (hfl2 _ o2) (hfl2 _ o4) (fun j hj => hfl2 _ (qk_flat_chk j hj))
    have s1 := qk_sfof (t := .array (.object "java/lang/StackTraceElement")) (by decide +kernel) (hts _ l3) (hfl2 _ o5)
    have s2 := qk_sfof (t := .object "java/util/List") (by decide +kernel) (hts _ l4) (hfl2 _ o6)
    have hXs : va_T .int b xs.length (fun j => .int (xs.getD j 0)) (fun q => s.heap.size ≤ q) s s.heap := ⟨scr, hcb, hof, hkn, Nat.le_of_eq hsz.symm, by rw [hsz], hval, Nat.not_le.mpr hbl⟩
    have hex : c.exceptionTable.toList = [] := by
      have h5 := B.noHandlers (hts0 _ List.mem_cons_self)
      have h6 : c.exceptionTable = #[] := by simpa using h5
      rw [h6]
    have X : qk_X m_La_law p l s m meth c (D, E) s.heap (qk_ro xs.length (fun j => xs.getD j 0)) (fun v => match v with | 0 => b | 1 => tW | 2 => tC | _ => 0) := by
      refine ⟨⟨B.exec, B.bytes, B.returns, hml0, findClass_of_methodNamed B.named, B.notSynchronized, (name_of_methodNamed B.named B.method).1, by rw [hex]; rfl⟩, ⟨hfl, s1, s2, fun q hq => va_Nc.of (hfl2 _ (qk_flat_nc q hq))⟩, ⟨⟨hD, fun k q hk => ?_⟩, hws, w2, c2, fun v n f hv => ?_⟩, fun q cell hq hc => absurd (Array.getElem?_eq_some_iff.mp hc).1 (by omega)⟩
      · obtain ⟨ty, hty, rfl⟩ := List.mem_map.mp (List.mem_of_getElem? hk)
        exact hE ty hty
      · match v, hv with
        | 0, hv => cases hv; exact ⟨by decide, hbl, hXs⟩
        | 1, hv => cases hv; exact ⟨by decide, w1, w3⟩
        | 2, hv => cases hv; exact ⟨by decide, c1, c3⟩
    have hR : qk_R (D, E) s.heap (qk_ro xs.length (fun j => xs.getD j 0)) (fun v => match v with | 0 => b | 1 => tW | 2 => tC | _ => 0) (qk_w0 xs.length (fun j => xs.getD j 0)) s.heap := by
      refine ⟨⟨Nat.le_refl _, fun _ _ => rfl, fun q cell hq hc => absurd (Array.getElem?_eq_some_iff.mp hc).1 (by omega)⟩, fun v _ => ?_, (fun v e hv h => by rw [qk_w0_none hv] at h; cases h), (fun v v' hv _ h => absurd (qk_w0_none hv) h)⟩
      match v with
      | 0 => rfl
      | 1 => rfl
      | 2 => rfl
      | k + 3 => rfl
    obtain ⟨r, w', kc, ks, ⟨hr, hkc, hks⟩, hS⟩ := HEv xs.length (fun j => xs.getD j 0) hbd
    subst hr
    have hlv := lv_entry [Value.ref b] (n := 7) (Nat.le_of_ble_eq_true rfl)
    have K := hS p l e room_1 s m #[Value.ref b] below meth c s.heap [] 0 0 (D, E) s.heap _ _ _ X hR (fun q hq => by
        rcases List.mem_cons.mp hq with h | h
        · rw [h]; exact fun h => by cases h
        · cases h) (fun x hx => by cases hx) hlv (fun q hq => by cases hq) (Nat.le_refl _) (by decide) (by simp only [room_1]; omega) (by simp only [room_1]; omega)
    obtain ⟨t, a1, o, ρ', L, b1, b2, ⟨b3, -⟩, -, -, -, b7, b8, b9⟩ := K s₁ hh0 X₀
    refine ⟨t, o, ?_, b1, b2, b3, ⟨⟨_, b3⟩, b7, qk_forget b8 b9 (by omega) (by omega)⟩⟩
    show Steps p.tables e below (s₁.setTop (entryFrame m ([Value.ref b] : List Value).toArray 7)) t
    rw [lg_entry_eq]
    exact a1
theorem lw_pre_spec {args : Array Value} {s : State} (h : (Jvm.Cond.and given_1 narrow_1).before args s = true) (hr : rest_1_c.before args s = true) : ∃ (b : Addr) (xs : List Int32), lw_P b xs args s := by
  have hs := flat_of_before _ h
  have hq := flat_of_before _ hr
  have hc : (Cond.count 1).before args s = true := hs _ (by decide +kernel)
  have harr : (Cond.arrayOf (.arg 0) .int).before args s = true := hs _ (by decide +kernel)
  have hle : (Cond.le (.length (.arg 0)) (.int 3072)).before args s = true := hs _ (by decide +kernel)
  have hlen : (Cond.isInt (.length (.arg 0))).before args s = true := hq _ (by decide +kernel)
  have hall : (Cond.all (.arg 0) (.isInt (.elem (.arg 0) (.index 0)))).before args s = true := hq _ (by decide +kernel)
  obtain ⟨b, xs, hb, hx⟩ := State.ints_of_pre rfl harr hlen hall
  have hsm : xs.length < 2 ^ 31 := hx.choose_spec.2.2.2
  have hev : (Term.length (.arg 0)).eval args s none [] s = some (.int xs.length.toInt32) := hx.length_eval hb
  have hv := Cond.le_ints hev (show (Term.int 3072).eval args s none [] s = some (.int 3072) from rfl)
  have hd : xs.length.toInt32 ≤ 3072 := by
    simpa [Cond.before, Cond.holds, hv] using hle
  have hN : xs.length ≤ 3072 := (Int32.ofNat_le_ofNat hsm (by decide)).mp (show Int32.ofNat xs.length ≤ Int32.ofNat 3072 from hd)
  exact ⟨b, xs, Cond.one_arg hc (show args[0]? = some (.ref b) from hb), hx, hN, h⟩
theorem lw_comes (HEv : qk_goal) (l : Launch) (hfl : l.stackTraces = false) : Comes l x (Jvm.Cond.code x code maxLocals ret :: tables_1) room_1 (fun tb e args s => Calls_1 tb e args s ∧ rest_1 tb e args s ∧ Pre_1 tb e args s)
    (fun _ _ args s o t => lw_Q args s o t) := by
  intro p e ha hc hk s m args below hf hfit hheap happ hpre
  obtain ⟨b, xs, hP⟩ := lw_pre_spec hpre.2.2 hpre.2.1
  obtain ⟨k, o, h1, h2, h3, hQ⟩ := lw_walk HEv l hfl b xs p e ha hc hk s m args below hf ((Spec.applies_iff_loose hf).mp happ).1 hP trivial
  exact ⟨k, o, h1, h2, h3, hQ⟩
theorem lw_frame {s t : State} {o : Outcome} {args : Array Value} (h : Framed s o t [] 601024 7293034) :
    Framed s o t (fieldLocs frame_1_writes args s ++ arrayLocs frame_1_arrays args s ++ staticLocs frame_1_statics s) 601024 7293034 := h
theorem lw_limb (HEv : qk_goal) (L : Cond) (hL : ∀ (args : Array Value) (s t : State), L.after args s (.returned (some (.int 1))) t = true) :
    ArmFor flags0 classFile x code maxLocals ret World_1 tables_1 room_1 Calls_1 rest_1 Pre_1
      (fun tb e a s o t => postC L tb e a s o t ∧ Framed s o t (fieldLocs frame_1_writes a s ++ arrayLocs frame_1_arrays a s ++ staticLocs frame_1_statics s) 601024 7293034) := by
  intro l z1 z2 z3 p e ha hc hk s m args below hf hfit hheap happ hpre
  have hfl : l.stackTraces = false := by
    first
      | (simp only [Launch.stackTraces, z1]; decide +kernel)
      | (simp only [Launch.stackTraces, z2]; decide +kernel)
      | (simp only [Launch.stackTraces, z3]; decide +kernel)
  obtain ⟨k, o, h1, h2, h3, rfl, hF⟩ := lw_comes HEv l hfl p e ha hc hk s m args below hf hfit hheap happ hpre
  exact ⟨k, _, h1, h2, h3, hL args s _, lw_frame hF⟩
theorem claim_of (HEv : qk_goal) : Claimed_1_1 ∧ Claimed_1_2 := ⟨lw_limb HEv limb_1_1 (fun args s t => by simp [limb_1_1, Cond.after, Cond.holds, Cond.value]), lw_limb HEv limb_1_2 (fun args s t => Cond.after_iff.mpr (by
  first | (rw [show limb_1_2 = Cond.eq .result (.int 1) from rfl, Cond.eq_ints (x := 1) (y := 1) rfl rfl]; simp; done) | (simp [limb_1_2, Cond.value, Term.eval]; done)))⟩
