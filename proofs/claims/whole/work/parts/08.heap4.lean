/-! ===== rules: new arrays, statics, arraycopy, Object.<init>, returns ===== -/
section Heap4
variable {d : Nat} {M : qk_M} {pc : Nat} {L : List (Option Value)} {st : List Value} {w : qk_W} {nc ns : Nat} {Q : Option Value ⊕ Nat → qk_W → Nat → Nat → Prop}
/-- what comes behind a new cell -/
theorem qk_after {pc' : Nat} {r : Option Value ⊕ Nat} {w' : qk_W} {kc ks v N : Nat} {x : qk_C} (hs : qk_S d M pc' L (.ref v :: st) (qk_set w v x) r w' kc ks) {p : Program} {l : Launch} {e : Env} {R : Room} {s : State} {m : MethodId} {args : Array Value} {below : List Frame} {meth : Method} {c : Code} {H H1 : Heap} {locs : List Loc} {cells slots : Nat} {G : qk_G} {H0 : Heap} {ro : qk_O} {ρ : Nat → Nat} {ls : Array Slot}
    (X : qk_X M p l s m meth c G H0 ro ρ) (hv : 16 ≤ v) (hn : w v = none) (hR' : qk_R G H0 ro (va_up ρ v H.size) (qk_set w v x) H1) (hL : ∀ q ∈ qk_lp 0 L, qk_ok w q.2) (hst : ∀ x ∈ st, qk_ok w x) (hl : lv_has ls M.2.2.1 ((qk_lp 0 L).map fun q => (q.1, qk_rv ρ q.2))) (hlo : ∀ q ∈ locs, H0.size ≤ q.base)
    (h1 : d ≤ R.frames) (h2 : 36 * d ≤ R.locals) (h3 : cells + (1 + kc) ≤ R.cells) (h4 : slots + (N + ks) ≤ R.slots) :
    W p l e R s m args below meth c H1 locs (cells + 1) (slots + N) (qk_E G H0 ro ρ w s below r w' (cells + (1 + kc)) (slots + (N + ks))) (F0 m pc' ls (.ref H.size :: st.map (qk_rv ρ))) := by
  have hup := qk_up_dom (ρ := ρ) (n := H.size) hn
  have h16 : ∀ u, u < 16 → va_up ρ v H.size u = ρ u := fun u hu => by simp [va_up, show u ≠ v by omega]
  have k2 := hs p l e R s m args below meth c H1 locs (cells + 1) (slots + N) G H0 ro (va_up ρ v H.size) ls ⟨X.1, X.2.1, qk_Kup X.2.2.1 h16, X.2.2.2⟩ hR' (fun q hq => qk_ok_mono (fun u hu => qk_set_some hu) (hL q hq)) (qk_cons (by show qk_set _ _ _ _ ≠ none; rw [qk_set_eq]; exact fun h => by cases h) (fun x hx => qk_ok_mono (fun u hu => qk_set_some hu) (hst x hx))) (by rw [qk_lmap_congr hup hL]; exact hl) hlo h1 h2 (by omega) (by omega)
  have e5 : (Value.ref v :: st).map (qk_rv (va_up ρ v H.size)) = .ref H.size :: st.map (qk_rv ρ) := by
    rw [List.map_cons, qk_map_congr hup hst]
    simp [qk_rv, va_up]
  rw [e5] at k2
  rw [← Nat.add_assoc, ← Nat.add_assoc]
  exact qk_Wm (fun t ht => qk_Em (fun u hu => ⟨hup u hu, qk_set_some hu⟩) h16 ht) k2
theorem ev_newa {atype : ArrayType} {ty : FieldType} {n : Int32} {N : Nat} (v : Nat) (a0 : vp_A) (hd : decode M.2.1 pc = .ok (.newarray atype, 2)) (hty : newarray.typeOf atype = ty) (hT : ty ∈ qk_tyl) (hTw : Cond.arrayClass ty ∈ lw_tbl) (hp : ∀ C, ty ≠ .object C) (ha : ∀ cA : ClassId, vp_cell cA a0 = arrV cA N (fun _ => defaultValue ty)) (hra : ∀ ρ, qk_ra ρ a0 = a0) (hok : ∀ w, qk_okC w (.inl (ty, a0)))
    (hn : ¬ n < 0) (hN : n.toNatClampNeg = N) (hb : N * componentBytes ty ≤ 536870912) (hv : 16 ≤ v) (hw : w v = none) (kk : Ev d M (pc + 2) L (.ref v :: st) (qk_set w v (.inl (ty, a0))) (nc + 1) (ns + N) Q) : Ev d M pc L (.int n :: st) w nc ns Q := by
  subst hty
  refine ev_to (dc := 1) (ds := N) (fun r w' kc ks hs p l e R s m args below meth c H locs cells slots G H0 ro ρ ls X hR hL hst hl hlo h1 h2 h3 h4 => ?_) kk
  refine va_newaK X.1.1 X.1.2.1 (X.2.2.1.2.1 _ hTw rfl args) rfl hd rfl hn hN hb (by omega) (by omega) rfl fun H1 cA e1 z1 o1 hAr hNm => ?_
  obtain ⟨t0, ht0⟩ := qk_ty (E := G.2) hT
  have hcA : cA = G.2 (newarray.typeOf atype) := by
    have h5 := (X.2.2.1.1.2 t0 _ ht0).2
    have h6 : s.vm.findClass ("[" ++ (newarray.typeOf atype).toString) = some (G.2 (newarray.typeOf atype)) := by
      cases atype <;> exact h5
    exact Option.some.inj (hNm.symm.trans h6)
  refine qk_after hs X hv hw (qk_Rnew hR hv hw z1 o1 ?_ (hok w)) hL (qk_tl hst) hl hlo h1 h2 h3 h4
  show H1[H.size]? = some (vp_cell (G.2 _) (qk_ra _ a0))
  rw [hra, ha, ← hcA]
  exact e1
theorem ev_anew {idx n0 : Nat} {C : String} {n : Int32} {N : Nat} (v : Nat) (hd : decode M.2.1 pc = .ok (.anewarray idx, 3)) (hcl : Cond.classLink M.1.cls idx C ∈ lw_tbl) (hao : Cond.arrayOver (.object C) ∈ lw_tbl) (hT : .object C ∈ qk_tyl)
    (hn : ¬ n < 0) (hN : n.toNatClampNeg = N) (hb : N * 4 ≤ 536870912) (hv : 16 ≤ v) (hw : w v = none) (kk : Ev d M (pc + 3) L (.ref v :: st) (qk_set w v (.inl (.object C, N, .inr (.inr (.inr (.inr (fun _ => none))))))) (nc + 1) (ns + N) Q) : Ev d M pc L (.int n :: st) w nc ns Q := by
  subst hN
  refine ev_to (dc := 1) (ds := n.toNatClampNeg) (fun r w' kc ks hs p l e R s m args below meth c H locs cells slots G H0 ro ρ ls X hR hL hst hl hlo h1 h2 h3 h4 => ?_) kk
  refine W.anew X.1.1 X.1.2.1 X.1.2.2.2.2.1 (X.2.2.1.2.1 _ hcl rfl args) (X.2.2.1.2.1 _ hao rfl args) rfl hd rfl hn hb (by omega) (by omega) fun cA kA comp f1 f2 f3 f4 => ?_
  generalize hH1 : H.push ({ cls := cA, slots := Array.replicate n.toNatClampNeg .null, vm := .none } : Cell) = H1
  have z1 : H1.size = H.size + 1 := by rw [← hH1, Array.size_push]
  have e1 : H1[H.size]? = some (arrV cA n.toNatClampNeg (fun _ => .null)) := by rw [← hH1, Array.getElem?_push_size, ← arrV_new]
  have o1 : ∀ q : Nat, q < H.size → H1[q]? = H[q]? := fun q hq => by rw [← hH1, Array.getElem?_push, if_neg (Nat.ne_of_lt hq)]
  obtain ⟨t0, ht0⟩ := qk_ty (E := G.2) hT
  have hcA : cA = G.2 (.object C) := by
    obtain ⟨-, -, -, -, -, h6⟩ := (X.2.2.1.1.2 t0 _ ht0).2
    first
      | exact Option.some.inj (f1.symm.trans h6)
      | exact Option.some.inj (f4.symm.trans h6)
  refine qk_after hs X hv hw (qk_Rnew hR hv hw z1 o1 ?_ (fun j a h => by cases h)) hL (qk_tl hst) hl hlo h1 h2 h3 h4
  show H1[H.size]? = some (vp_cell (G.2 _) _)
  rw [← hcA]
  exact e1
/-- WIDTHS (1) and CHECK_STEPS (2) -/
theorem ev_gets {idx v : Nat} {f : String} (hd : decode M.2.1 pc = .ok (.getstatic idx, 3)) (hw : Cond.fieldLinkNest M.1.cls idx "QuakeLink" f "[I" "QuakeLink" ∈ lw_tbl) (hf : (f = "WIDTHS" ∧ v = 1) ∨ (f = "CHECK_STEPS" ∧ v = 2)) (hv : w v ≠ none) (kk : Ev d M (pc + 3) L (.ref v :: st) w nc ns Q) : Ev d M pc L st w nc ns Q := by
  refine ev_of (fun r w' kc ks hs p l e R s m args below meth c H locs cells slots G H0 ro ρ ls X hR hL hst hl hlo h1 h2 h3 h4 => ?_) kk
  have hZ : va_Z "QuakeLink" f "[I" (.ref (ρ v)) (fun q => H0.size ≤ q) s H0 := by
    rcases hf with ⟨rfl, rfl⟩ | ⟨rfl, rfl⟩
    · exact X.2.2.1.2.2.1
    · exact X.2.2.1.2.2.2.1
  obtain ⟨cf, kf, fi, f0, a, cell, g1, g2, g3, g4, g5, g6, g7, g8⟩ := hZ
  exact va_WgetsN X.1.1 X.1.2.1 X.1.2.2.2.2.1 (X.2.2.1.2.1 _ hw rfl args) g1 g2 g3 g4 (by rw [hR.1.2.1 a (Array.getElem?_eq_some_iff.mp g5).1]; exact g5) (fun e => by rw [e] at g6; cases g6) g7 rfl hd (hs p l e R s m args below meth c H locs cells slots G H0 ro ρ ls X hR hL (qk_cons (v := .ref v) hv hst) hl hlo h1 h2 h3 h4)
theorem ev_copy {idx a0 a n0 n1 : Nat} {f g : Nat → Int32} {sp dp n : Int32} (hd : decode M.2.1 pc = .ok (.invokestatic idx, 3)) (hw1 : Cond.methodLink M.1.cls idx arraycopyName ∈ lw_tbl) (hw2 : Cond.native arraycopyName ∈ lw_tbl) (hw3 : Cond.static arraycopyName ∈ lw_tbl) (hw4 : Cond.initialized "java/lang/System" ∈ lw_tbl)
    (ha0 : 16 ≤ a0) (ha : 16 ≤ a) (hw0 : w a0 = some (.inl (.byte, n0, .inl f))) (hw : w a = some (.inl (.byte, n1, .inl g))) (k1 : ¬ sp < 0) (k2 : ¬ dp < 0) (k3 : ¬ n < 0) (k4 : sp.toNatClampNeg + n.toNatClampNeg ≤ n0) (k5 : dp.toNatClampNeg + n.toNatClampNeg ≤ n1) (hfit : ∀ i, i < n.toNatClampNeg → fits .byte (.int (f (sp.toNatClampNeg + i))) = true)
    (hd1 : 1 ≤ d) (hr8 : (st.map fun v => v.category).sum ≤ 8) (hnw : nativeFrameWords "java/lang/System" "arraycopy" 5 ≤ 17) (kk : Ev d M (pc + 3) L st (qk_set w a (.inl (.byte, n1, .inl (va_cpy f g sp.toNatClampNeg dp.toNatClampNeg n.toNatClampNeg)))) nc ns Q) : Ev d M pc L (.int n :: .int dp :: .ref a :: .int sp :: .ref a0 :: st) w nc ns Q := by
  refine ev_set (fun r w' kc ks hs p l e R s m args below meth c H locs cells slots G H0 ro ρ ls X hR hL hst hl hlo h1 h2 h3 h4 => ?_) kk
  obtain ⟨g1, g2, g3⟩ := hR.2.2.1 a _ ha hw
  obtain ⟨j1, j2, j3⟩ := hR.2.2.1 a0 _ ha0 hw0
  obtain ⟨t0, ht0⟩ := qk_ty (E := G.2) (ty := .byte) (by decide)
  have nn : ∀ z : Int32, ¬ z < 0 → z.toInt = (z.toNatClampNeg : Int) := by
    intro z hz
    have hz0 : (0 : Int) ≤ z.toInt := by
      have := Int32.not_lt.mp hz
      simpa using Int32.le_iff_toInt_le.mp this
    show z.toInt = ((z.toInt.toNat : Nat) : Int)
    omega
  intro T hT Y
  have hc0 : H[ρ a0]? = some (vp_cell (G.2 .byte) (n0, .inl f)) := j2
  have hc1 : H[ρ a]? = some (vp_cell (G.2 .byte) (n1, .inl g)) := g2
  obtain ⟨-, k0, hk0, cm0, hkk0⟩ := (X.2.2.1.1.2 t0 _ ht0).1 n0 (fun j => .int (f j))
  obtain ⟨-, k1', hk1, cm1, hkk1⟩ := (X.2.2.1.1.2 t0 _ ht0).1 n1 (fun j => .int (g j))
  have hcat : ((st.map (qk_rv ρ)).map fun v => v.category).sum = (st.map fun v => v.category).sum := by
    rw [List.map_map]
    congr 1
    exact List.map_congr_left fun x _ => qk_rv_cat ρ x
  obtain ⟨vm', X', step⟩ := Y.arraycopy X.1.1 X.1.2.2.2.2.1 (X.2.2.1.2.1 _ hw1 rfl args) (X.2.2.1.2.1 _ hw2 rfl args) (X.2.2.1.2.1 _ hw3 rfl args) (X.2.2.1.2.1 _ hw4 rfl args) (src := ρ a0) (dst := ρ a) (cs := vp_cell (G.2 .byte) (n0, .inl f)) (cd := vp_cell (G.2 .byte) (n1, .inl g)) (srcPos := sp) (destPos := dp) (n := n) (by rw [hT]; exact hc0) (by rw [hT]; exact hc1)
    (fun _ h => by cases h) (fun _ h => by cases h) (fun h => by cases h) (fun h => by cases h) hk0 hk1 hkk0 hkk1 (by simp [refKind]) k1 k2 k3
    (by rw [nn sp k1, nn n k3]; show ¬ _ > ((arrV (G.2 .byte) n0 (fun j => .int (f j))).slots.size : Int); rw [arrV_size]; omega)
    (by rw [nn dp k2, nn n k3]; show ¬ _ > ((arrV (G.2 .byte) n1 (fun j => .int (g j))).slots.size : Int); rw [arrV_size]; omega)
    (fun vm₁ _ i hi => by
      have e : (vp_cell (G.2 .byte) (n0, .inl f)).slots.getD (sp.toNatClampNeg + i) .null = .int (f (sp.toNatClampNeg + i)) := by
        show (arrV (G.2 .byte) n0 (fun j => .int (f j))).slots.getD _ _ = _
        rw [Array.getD_eq_getD_getElem?, arrV_read _ _ (by omega)]
        rfl
      refine ⟨?_, ?_⟩
      · rw [e]
        exact hfit i hi
      · rw [e]
        exact trivial)
    (g := F0 m pc ls (.int n :: .int dp :: .ref (ρ a) :: .int sp :: .ref (ρ a0) :: st.map (qk_rv ρ))) rfl (by rw [X.1.2.2.2.1]; exact hl.1) (rest := st.map (qk_rv ρ)) rfl (by rw [X.1.2.1]; exact hd) (by omega) (by show 2 * 0 + _ + _ ≤ _; rw [hcat]; omega)
  have e1 : copied (vp_cell (G.2 .byte) (n0, .inl f)) (vp_cell (G.2 .byte) (n1, .inl g)) sp dp n = vp_cell (G.2 .byte) (n1, .inl (va_cpy f g sp.toNatClampNeg dp.toNatClampNeg n.toNatClampNeg)) := va_copied (fun z => .int z) (G.2 .byte) (G.2 .byte) f g k4
  rw [e1] at X' step
  have hlt : ρ a < H.size := (Array.getElem?_eq_some_iff.mp hc1).1
  have hheap : ((T.setVm vm').setCell (ρ a) (vp_cell (G.2 .byte) (n1, .inl (va_cpy f g sp.toNatClampNeg dp.toNatClampNeg n.toNatClampNeg)))).heap = H.setIfInBounds (ρ a) (vp_cell (G.2 .byte) (n1, .inl (va_cpy f g sp.toNatClampNeg dp.toNatClampNeg n.toNatClampNeg))) := by rw [← hT]; rfl
  have oq : ∀ q : Nat, q ≠ ρ a → (H.setIfInBounds (ρ a) (vp_cell (G.2 .byte) (n1, .inl (va_cpy f g sp.toNatClampNeg dp.toNatClampNeg n.toNatClampNeg))))[q]? = H[q]? := fun q hq => by simp [Array.getElem?_setIfInBounds, Ne.symm hq]
  have hR' : qk_R G H0 ro ρ (qk_set w a (.inl (.byte, n1, .inl (va_cpy f g sp.toNatClampNeg dp.toNatClampNeg n.toNatClampNeg)))) (H.setIfInBounds (ρ a) (vp_cell (G.2 .byte) (n1, .inl (va_cpy f g sp.toNatClampNeg dp.toNatClampNeg n.toNatClampNeg)))) :=
    qk_Rset hR ha (by rw [hw]; exact fun h => by cases h) (by simp) oq (show (H.setIfInBounds (ρ a) _)[ρ a]? = some _ by simp [Array.getElem?_setIfInBounds, hlt]; rfl) trivial
  obtain ⟨t, a1, b1⟩ := hs p l e R s m args below meth c _ _ cells slots G H0 ro ρ ls X hR' (fun q hq => qk_ok_mono (fun u hu => qk_set_some hu) (hL q hq)) (fun x hx => qk_ok_mono (fun u hu => qk_set_some hu) (qk_tl (qk_tl (qk_tl (qk_tl (qk_tl hst)))) x hx)) hl (fun q hq => by
      rcases List.mem_append.mp hq with h | h
      · exact hlo q h
      · obtain ⟨z, -, hz⟩ := List.mem_map.mp h
        rw [← hz]
        exact g1) h1 h2 h3 h4 _ hheap X'
  exact ⟨t, step t a1, qk_Em (fun u hu => ⟨rfl, qk_set_some hu⟩) (fun _ _ => rfl) b1⟩
theorem qk_cat8 {ρ : Nat → Nat} : ((st.map (qk_rv ρ)).map fun v => v.category).sum = (st.map fun v => v.category).sum := by
  rw [List.map_map]
  congr 1
  exact List.map_congr_left fun x _ => qk_rv_cat ρ x
theorem ev_obj {idx a : Nat} (hd : decode M.2.1 pc = .ok (.invokespecial idx, 3)) (hw1 : Cond.methodLink M.1.cls idx Lib.objectInit ∈ lw_tbl) (hw2 : Cond.instanceMethod Lib.objectInit ∈ lw_tbl) (hw3 : Cond.code Lib.objectInit ⟨#[0xb1]⟩ 1 none ∈ lw_tbl) (hd1 : 1 ≤ d) (hr8 : (st.map fun v => v.category).sum ≤ 8) (kk : Ev d M (pc + 3) L st w nc ns Q) : Ev d M pc L (.ref a :: st) w nc ns Q := by
  refine ev_of (fun r w' kc ks hs p l e R s m args below meth c H locs cells slots G H0 ro ρ ls X hR hL hst hl hlo h1 h2 h3 h4 => ?_) kk
  exact W.objInit X.1.1 X.1.2.1 X.1.2.2.2.2.1 (X.2.2.1.2.1 _ hw1 rfl args) (X.2.2.1.2.1 _ hw2 rfl args) (X.2.2.1.2.1 _ hw3 rfl args) rfl (by rw [X.1.2.2.2.1]; exact hl.1) rfl hd (by omega) (by show 2 * 0 + _ + 12 ≤ _; rw [qk_cat8]; omega) (hs p l e R s m args below meth c H locs cells slots G H0 ro ρ ls X hR hL (qk_tl hst) hl hlo h1 h2 h3 h4)
/-- an end by a return: what MQ says is what qk_E says -/
theorem qk_Ret {G : qk_G} {H0 : Heap} {ro : qk_O} {ρ : Nat → Nat} {s : State} {below : List Frame} {v : Option Value} {cells slots : Nat} {args : Array Value} {H : Heap} (hR : qk_R G H0 ro ρ w H) (hv : ∀ x, v = some x → qk_ok w x) {t : State}
    (h : MQ below (fun _ _ o t => o = .returned (v.map (qk_rv ρ)) ∧ t.heap = H) args s cells slots (fun q => H0.size ≤ q) t) : qk_E G H0 ro ρ w s below (.inl v) w (cells + 0) (slots + 0) t := by
  obtain ⟨o, a1, a2, ⟨a3, a4⟩, L0, ⟨-, a6, a7⟩, a8⟩ := h
  exact ⟨o, ρ, L0, a1, a2, ⟨a3, hv⟩, fun u hu => ⟨rfl, hu⟩, fun _ _ => rfl, by rw [a4]; exact hR, a6, a7, a8⟩
theorem ev_fin {v : Option Value} (hq : Q (.inl v) w nc ns) (hs : qk_S d M pc L st w (.inl v) w 0 0) : Ev d M pc L st w nc ns Q := ⟨.inl v, w, 0, 0, hq, hs⟩
theorem ev_iret {x : Int32} {ty : FieldType} (hd : decode M.2.1 pc = .ok (.ireturn, 1)) (hr : M.2.2.2.1 = some ty) (hn : narrow ty (.int x) = .int x) (hq : Q (.inl (some (.int x))) w nc ns) : Ev d M pc L [.int x] w nc ns Q := by
  refine ev_fin hq (fun p l e R s m args below meth c H locs cells slots G H0 ro ρ ls X hR hL hst hl hlo h1 h2 h3 h4 => ?_)
  exact qk_Wm (fun t ht => qk_Ret hR (fun y hy => by cases hy; trivial) ht) (W.zret (Qc := fun _ _ o t => o = .returned ((some (Value.int x)).map (qk_rv ρ)) ∧ t.heap = H) X.1.1 X.1.2.1 (X.1.2.2.1.trans hr) hn (fun t ht _ => ⟨rfl, ht⟩) hlo hd X.1.2.2.2.2.2.1)
theorem ev_lret {x : Int64} (hd : decode M.2.1 pc = .ok (.lreturn, 1)) (hr : M.2.2.2.1 = some .long) (hq : Q (.inl (some (.long x))) w nc ns) : Ev d M pc L [.long x] w nc ns Q := by
  refine ev_fin hq (fun p l e R s m args below meth c H locs cells slots G H0 ro ρ ls X hR hL hst hl hlo h1 h2 h3 h4 => ?_)
  exact qk_Wm (fun t ht => qk_Ret hR (fun y hy => by cases hy; trivial) ht) (W.lret (Qc := fun _ _ o t => o = .returned ((some (Value.long x)).map (qk_rv ρ)) ∧ t.heap = H) X.1.1 X.1.2.1 (X.1.2.2.1.trans hr) (fun t ht _ => ⟨rfl, ht⟩) hlo hd X.1.2.2.2.2.2.1)
theorem ev_vret (hd : decode M.2.1 pc = .ok (.return_, 1)) (hr : M.2.2.2.1 = none) (hq : Q (.inl none) w nc ns) : Ev d M pc L [] w nc ns Q := by
  refine ev_fin hq (fun p l e R s m args below meth c H locs cells slots G H0 ro ρ ls X hR hL hst hl hlo h1 h2 h3 h4 => ?_)
  exact qk_Wm (fun t ht => qk_Ret hR (fun y hy => by cases hy) ht) (W.vret (Qc := fun _ _ o t => o = .returned ((none : Option Value).map (qk_rv ρ)) ∧ t.heap = H) X.1.1 X.1.2.1 (X.1.2.2.1.trans hr) (fun t ht _ => ⟨rfl, ht⟩) hlo hd X.1.2.2.2.2.2.1)
theorem ev_aret {v : Value} {C : String} (hd : decode M.2.1 pc = .ok (.areturn, 1)) (hr : M.2.2.2.1 = some (.object C)) (hv : qk_isr v = true) (hq : Q (.inl (some v)) w nc ns) : Ev d M pc L [v] w nc ns Q := by
  refine ev_fin hq (fun p l e R s m args below meth c H locs cells slots G H0 ro ρ ls X hR hL hst hl hlo h1 h2 h3 h4 => ?_)
  exact qk_Wm (fun t ht => qk_Ret hR (fun y hy => by cases hy; exact qk_hd hst) ht) (W.aret (v := qk_rv ρ v) (Qc := fun _ _ o t => o = .returned ((some v).map (qk_rv ρ)) ∧ t.heap = H) X.1.1 X.1.2.1 (X.1.2.2.1.trans hr) (Or.inl ⟨C, rfl⟩) (by cases v <;> first | exact Or.inl rfl | exact Or.inr ⟨_, rfl⟩ | cases hv) (fun t ht _ => ⟨rfl, ht⟩) hlo hd X.1.2.2.2.2.2.1)
end Heap4
