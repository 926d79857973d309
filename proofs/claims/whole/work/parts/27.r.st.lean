/-! St_init -/
theorem ob_St_3 : Cond.methodLink "QuakeLink$Station" 3 Lib.objectInit ∈ lw_tbl := (lw_i1 _ (List.mem_of_getElem? (i := 35) rfl))
theorem al_St_9 : Cond.classLink "QuakeLink$Station" 9 "QuakeLink$Channel" ∈ lw_tbl ∧ Cond.arrayOver (.object "QuakeLink$Channel") ∈ lw_tbl := ⟨(lw_i1 _ (List.mem_of_getElem? (i := 36) rfl)), (lw_i1 _ (List.mem_of_getElem? (i := 37) rfl))⟩
theorem fl_St_11 : qk_fl "QuakeLink$Station" 11 1 0 := ⟨_, rfl, by decide, rfl, (lw_i1 _ (List.mem_of_getElem? (i := 85) rfl))⟩
theorem fl_St_17 : qk_fl "QuakeLink$Station" 17 1 1 := ⟨_, rfl, by decide, rfl, (lw_i1 _ (List.mem_of_getElem? (i := 87) rfl))⟩
theorem nl_St_9 : qk_nl "QuakeLink$Station" 9 2 [.null, .int 0, .int 0, .null, .int 0, .int 0, .int 0] := ⟨_, rfl, by decide, (lw_i1 _ (List.mem_of_getElem? (i := 36) rfl)), rfl, rfl⟩
theorem cw_St_21 : qk_cw "QuakeLink$Station" m_Ch_init.1 (.invokespecial 21) := ⟨rfl, Or.inl (lw_i1 _ (List.mem_of_getElem? (i := 39) rfl)), (lw_i1 _ (List.mem_of_getElem? (i := 40) rfl))⟩
theorem d_St_init_0 : decode m_St_init.2.1 0 = .ok (.aload_n 0, 1) := by decide +kernel
theorem d_St_init_1 : decode m_St_init.2.1 1 = .ok (.invokespecial 3, 3) := by decide +kernel
theorem d_St_init_4 : decode m_St_init.2.1 4 = .ok (.aload_n 0, 1) := by decide +kernel
theorem d_St_init_5 : decode m_St_init.2.1 5 = .ok (.iconst 4, 1) := by decide +kernel
theorem d_St_init_6 : decode m_St_init.2.1 6 = .ok (.anewarray 9, 3) := by decide +kernel
theorem d_St_init_9 : decode m_St_init.2.1 9 = .ok (.putfield 11, 3) := by decide +kernel
theorem d_St_init_12 : decode m_St_init.2.1 12 = .ok (.aload_n 0, 1) := by decide +kernel
theorem d_St_init_13 : decode m_St_init.2.1 13 = .ok (.bipush 100, 2) := by decide +kernel
theorem d_St_init_15 : decode m_St_init.2.1 15 = .ok (.putfield 17, 3) := by decide +kernel
theorem d_St_init_18 : decode m_St_init.2.1 18 = .ok (.iconst 0, 1) := by decide +kernel
theorem d_St_init_19 : decode m_St_init.2.1 19 = .ok (.istore_n 1, 1) := by decide +kernel
theorem d_St_init_20 : decode m_St_init.2.1 20 = .ok (.iload_n 1, 1) := by decide +kernel
theorem d_St_init_21 : decode m_St_init.2.1 21 = .ok (.iconst 4, 1) := by decide +kernel
theorem d_St_init_22 : decode m_St_init.2.1 22 = .ok (.if_icmp .ge 23, 3) := by decide +kernel
theorem d_St_init_25 : decode m_St_init.2.1 25 = .ok (.aload_n 0, 1) := by decide +kernel
theorem d_St_init_26 : decode m_St_init.2.1 26 = .ok (.getfield 11, 3) := by decide +kernel
theorem d_St_init_29 : decode m_St_init.2.1 29 = .ok (.iload_n 1, 1) := by decide +kernel
theorem d_St_init_30 : decode m_St_init.2.1 30 = .ok (.new 9, 3) := by decide +kernel
theorem d_St_init_33 : decode m_St_init.2.1 33 = .ok (.dup, 1) := by decide +kernel
theorem d_St_init_34 : decode m_St_init.2.1 34 = .ok (.iload_n 1, 1) := by decide +kernel
theorem d_St_init_35 : decode m_St_init.2.1 35 = .ok (.invokespecial 21, 3) := by decide +kernel
theorem d_St_init_38 : decode m_St_init.2.1 38 = .ok (.aastore, 1) := by decide +kernel
theorem d_St_init_39 : decode m_St_init.2.1 39 = .ok (.iinc 1 1, 3) := by decide +kernel
theorem d_St_init_42 : decode m_St_init.2.1 42 = .ok (.goto (-22), 3) := by decide +kernel
theorem d_St_init_45 : decode m_St_init.2.1 45 = .ok (.return_, 1) := by decide +kernel
theorem t_St_init_0 {d : Nat} {st : List Value} {a0 : Nat} {o1 : Option Value} {w : qk_W} {nc ns : Nat} {Q : Option Value ⊕ Nat → qk_W → Nat → Nat → Prop}  (h8 : (st.map fun v => Value.category v).sum ≤ 8) (k : Ev (d + 1) m_St_init 4 [some (.ref a0), o1] st w nc ns Q) : Ev (d + 1) m_St_init 0 [some (.ref a0), o1] st w nc ns Q := by
  refine ev_aload_n d_St_init_0 rfl rfl ?_
  exact ev_obj d_St_init_1 ob_St_3 ob_inst ob_code (by omega) h8 k
theorem t_St_init_4 {d : Nat} {st : List Value} {v0 : Value} {o1 : Option Value} {w : qk_W} {nc ns : Nat} {Q : Option Value ⊕ Nat → qk_W → Nat → Nat → Prop} (hv0 : qk_isr v0 = true) (v : Nat) (hv : 16 ≤ v) (hn : w v = none) (k : Ev d m_St_init 9 [some v0, o1] (.ref v :: v0 :: st) (qk_set w v (.inl (.object "QuakeLink$Channel", 4, .inr (.inr (.inr (.inr (fun _ => none))))))) (nc + 1) (ns + 4) Q) : Ev d m_St_init 4 [some v0, o1] st w nc ns Q := by
  refine ev_aload_n d_St_init_4 rfl hv0 ?_
  refine ev_iconst 4 d_St_init_5 (by decide) ?_
  exact ev_anew (n0 := 0) v d_St_init_6 al_St_9.1 al_St_9.2 (by decide) (by decide) (by decide) (by decide) hv hn k
theorem t_St_init_9 {d : Nat} {st : List Value} {o0 : Option Value} {o1 : Option Value} {s0 : Value} {b1 : Nat} {fs2 : List Value} {w : qk_W} {nc ns : Nat} {Q : Option Value ⊕ Nat → qk_W → Nat → Nat → Prop} (hs0 : qk_isr s0 = true) (hw1 : wo w b1 1 fs2) (hk : 0 < fs2.length) (hz : qk_fit (qk_fty 1 0) s0 = true) (k : Ev d m_St_init 12 [o0, o1] st (qk_set w b1 (.inr (1, fs2.set 0 (s0)))) nc ns Q) : Ev d m_St_init 9 [o0, o1] (s0 :: .ref b1 :: st) w nc ns Q := by
  exact ev_putF d_St_init_9 fl_St_11 rfl rfl rfl hw1.1 hw1.2 hk hz k
theorem t_St_init_12 {d : Nat} {st : List Value} {a0 : Nat} {o1 : Option Value} {fs2 : List Value} {w : qk_W} {nc ns : Nat} {Q : Option Value ⊕ Nat → qk_W → Nat → Nat → Prop}  (hw1 : wo w a0 1 fs2) (hk : 1 < fs2.length) (k : Ev d m_St_init 18 [some (.ref a0), o1] st (qk_set w a0 (.inr (1, fs2.set 1 (.int 100)))) nc ns Q) : Ev d m_St_init 12 [some (.ref a0), o1] st w nc ns Q := by
  refine ev_aload_n d_St_init_12 rfl rfl ?_
  refine ev_bipush 100 d_St_init_13 (by decide) ?_
  exact ev_putf d_St_init_15 fl_St_17 rfl hw1.1 hw1.2 hk (qk_fitI _) k
theorem t_St_init_18 {d : Nat} {st : List Value} {o0 : Option Value} {o1 : Option Value} {w : qk_W} {nc ns : Nat} {Q : Option Value ⊕ Nat → qk_W → Nat → Nat → Prop}  (hc1 : qk_c2 [o0, o1] 1 = true) (k : Ev d m_St_init 20 [o0, some (.int 0)] st w nc ns Q) : Ev d m_St_init 18 [o0, o1] st w nc ns Q := by
  refine ev_iconst 0 d_St_init_18 (by decide) ?_
  refine ev_istore_n d_St_init_19 (by decide) hc1 ?_
  exact k
theorem t_St_init_20 {d : Nat} {st : List Value} {o0 : Option Value} {x1 : Int32} {w : qk_W} {nc ns : Nat} {Q : Option Value ⊕ Nat → qk_W → Nat → Nat → Prop}   (kt : (4 : Int32) ≤ x1 → Ev d m_St_init 45 [o0, some (.int x1)] st w nc ns Q) (kf : ¬ ((4 : Int32) ≤ x1) → Ev d m_St_init 25 [o0, some (.int x1)] st w nc ns Q) : Ev d m_St_init 20 [o0, some (.int x1)] st w nc ns Q := by
  refine ev_iload_n d_St_init_20 rfl ?_
  refine ev_iconst 4 d_St_init_21 (by decide) ?_
  exact ev_icmp_ge 45 d_St_init_22 (by decide) kt kf
theorem t_St_init_25 {d : Nat} {st : List Value} {a0 : Nat} {x1 : Int32} {fs2 : List Value} {c4 : Nat} {w : qk_W} {nc ns : Nat} {Q : Option Value ⊕ Nat → qk_W → Nat → Nat → Prop}  (v : Nat) (hv : 16 ≤ v) (hn : w v = none) (hw1 : wo w a0 1 fs2) (hf3 : fs2[0]? = some (.ref c4)) (k : Ev d m_St_init 33 [some (.ref a0), some (.int x1)] (.ref v :: .int x1 :: .ref c4 :: st) (qk_set w v (.inr (2, [.null, .int 0, .int 0, .null, .int 0, .int 0, .int 0]))) (nc + 1) (ns + 7) Q) : Ev d m_St_init 25 [some (.ref a0), some (.int x1)] st w nc ns Q := by
  refine ev_aload_n d_St_init_25 rfl rfl ?_
  refine ev_getf d_St_init_26 fl_St_11 hw1.1 hw1.2 hf3 ?_
  refine ev_iload_n d_St_init_29 rfl ?_
  exact ev_new v d_St_init_30 nl_St_9 hv hn k
theorem t_St_init_33 {d : Nat} {st : List Value} {o0 : Option Value} {x1 : Int32} {b0 : Nat} {w : qk_W} {nc ns : Nat} {Q : Option Value ⊕ Nat → qk_W → Nat → Nat → Prop}  (h8 : ((.ref b0 :: st).map fun v => Value.category v).sum ≤ 8) (k : Ev d m_Ch_init 0 [some (.ref b0), some (.int x1)] [] w nc ns (fun r w1 nc1 ns1 => match r with | .inl v => Ev (d + 1) m_St_init 38 [o0, some (.int x1)] (v.toList ++ (.ref b0 :: st)) w1 nc1 ns1 Q | .inr x => Q (.inr x) w1 nc1 ns1)) : Ev (d + 1) m_St_init 33 [o0, some (.int x1)] (.ref b0 :: st) w nc ns Q := by
  refine ev_dup d_St_init_33 rfl ?_
  refine ev_iload_n d_St_init_34 rfl ?_
  exact ev_call (M' := m_Ch_init) (As := [.ref b0, .int x1]) (st := (.ref b0 :: st)) d_St_init_35 i_Ch_init ii_Ch_init cw_St_21 rfl rfl trivial rfl (Nat.le_of_ble_eq_true rfl) h8 k
theorem t_St_init_38 {d : Nat} {st : List Value} {o0 : Option Value} {o1 : Option Value} {b0 : Nat} {y1 : Int32} {b2 : Nat} {n2 : Nat} {f3 : Nat → Option Nat} {vs : List Value} {w : qk_W} {nc ns : Nat} {Q : Option Value ⊕ Nat → qk_W → Nat → Nat → Prop}  (ha1 : wr "QuakeLink$Channel" w b2 n2 f3) (hi : vp_in y1 n2) (hv : wo w b0 2 vs) (k : Ev d m_St_init 39 [o0, o1] st (qk_set w b2 (.inl (.object "QuakeLink$Channel", n2, .inr (.inr (.inr (.inr (va_up f3 y1.toNatClampNeg (some b0)))))))) nc ns Q) : Ev d m_St_init 38 [o0, o1] (.ref b0 :: .int y1 :: .ref b2 :: st) w nc ns Q := by
  exact ev_aast (ci := 2) d_St_init_38 ha1.1 hv.1 rfl (by decide) ha1.2 hv.2 hi k
theorem t_St_init_39 {d : Nat} {st : List Value} {o0 : Option Value} {x1 : Int32} {w : qk_W} {nc ns : Nat} {Q : Option Value ⊕ Nat → qk_W → Nat → Nat → Prop}  (hc1 : qk_c2 [o0, some (.int x1)] 1 = true) (k : Ev d m_St_init 20 [o0, some (.int (x1 + 1))] st w nc ns Q) : Ev d m_St_init 39 [o0, some (.int x1)] st w nc ns Q := by
  refine ev_iinc 1 d_St_init_39 (by decide) rfl (by decide) hc1 ?_
  refine ev_goto 20 d_St_init_42 (by decide) ?_
  exact k
theorem t_St_init_45 {d : Nat} {o0 : Option Value} {o1 : Option Value} {w : qk_W} {nc ns : Nat} {Q : Option Value ⊕ Nat → qk_W → Nat → Nat → Prop}   (hq : Q (.inl none) w nc ns) : Ev d m_St_init 45 [o0, o1] [] w nc ns Q := by
  exact ev_vret d_St_init_45 rfl hq
/-! Ce_init -/
theorem ob_Ce_3 : Cond.methodLink "QuakeLink$Centre" 3 Lib.objectInit ∈ lw_tbl := (lw_i1 _ (List.mem_of_getElem? (i := 125) rfl))
theorem al_Ce_9 : Cond.classLink "QuakeLink$Centre" 9 "QuakeLink$Track" ∈ lw_tbl ∧ Cond.arrayOver (.object "QuakeLink$Track") ∈ lw_tbl := ⟨(lw_i1 _ (List.mem_of_getElem? (i := 126) rfl)), (lw_i1 _ (List.mem_of_getElem? (i := 127) rfl))⟩
theorem fl_Ce_11 : qk_fl "QuakeLink$Centre" 11 5 0 := ⟨_, rfl, by decide, rfl, (lw_i1 _ (List.mem_of_getElem? (i := 149) rfl))⟩
theorem nl_Ce_9 : qk_nl "QuakeLink$Centre" 9 6 [.null, .int 0, .null] := ⟨_, rfl, by decide, (lw_i1 _ (List.mem_of_getElem? (i := 126) rfl)), rfl, rfl⟩
theorem cw_Ce_17 : qk_cw "QuakeLink$Centre" m_Tr_init.1 (.invokespecial 17) := ⟨rfl, Or.inr ⟨"QuakeLink", (lw_i1 _ (List.mem_of_getElem? (i := 129) rfl))⟩, (lw_i1 _ (List.mem_of_getElem? (i := 130) rfl))⟩
theorem d_Ce_init_0 : decode m_Ce_init.2.1 0 = .ok (.aload_n 0, 1) := by decide +kernel
theorem d_Ce_init_1 : decode m_Ce_init.2.1 1 = .ok (.invokespecial 3, 3) := by decide +kernel
theorem d_Ce_init_4 : decode m_Ce_init.2.1 4 = .ok (.aload_n 0, 1) := by decide +kernel
theorem d_Ce_init_5 : decode m_Ce_init.2.1 5 = .ok (.iconst 4, 1) := by decide +kernel
theorem d_Ce_init_6 : decode m_Ce_init.2.1 6 = .ok (.anewarray 9, 3) := by decide +kernel
theorem d_Ce_init_9 : decode m_Ce_init.2.1 9 = .ok (.putfield 11, 3) := by decide +kernel
theorem d_Ce_init_12 : decode m_Ce_init.2.1 12 = .ok (.iconst 0, 1) := by decide +kernel
theorem d_Ce_init_13 : decode m_Ce_init.2.1 13 = .ok (.istore_n 1, 1) := by decide +kernel
theorem d_Ce_init_14 : decode m_Ce_init.2.1 14 = .ok (.iload_n 1, 1) := by decide +kernel
theorem d_Ce_init_15 : decode m_Ce_init.2.1 15 = .ok (.iconst 4, 1) := by decide +kernel
theorem d_Ce_init_16 : decode m_Ce_init.2.1 16 = .ok (.if_icmp .ge 22, 3) := by decide +kernel
theorem d_Ce_init_19 : decode m_Ce_init.2.1 19 = .ok (.aload_n 0, 1) := by decide +kernel
theorem d_Ce_init_20 : decode m_Ce_init.2.1 20 = .ok (.getfield 11, 3) := by decide +kernel
theorem d_Ce_init_23 : decode m_Ce_init.2.1 23 = .ok (.iload_n 1, 1) := by decide +kernel
theorem d_Ce_init_24 : decode m_Ce_init.2.1 24 = .ok (.new 9, 3) := by decide +kernel
theorem d_Ce_init_27 : decode m_Ce_init.2.1 27 = .ok (.dup, 1) := by decide +kernel
theorem d_Ce_init_28 : decode m_Ce_init.2.1 28 = .ok (.invokespecial 17, 3) := by decide +kernel
theorem d_Ce_init_31 : decode m_Ce_init.2.1 31 = .ok (.aastore, 1) := by decide +kernel
theorem d_Ce_init_32 : decode m_Ce_init.2.1 32 = .ok (.iinc 1 1, 3) := by decide +kernel
theorem d_Ce_init_35 : decode m_Ce_init.2.1 35 = .ok (.goto (-21), 3) := by decide +kernel
theorem d_Ce_init_38 : decode m_Ce_init.2.1 38 = .ok (.return_, 1) := by decide +kernel
theorem t_Ce_init_0 {d : Nat} {st : List Value} {a0 : Nat} {o1 : Option Value} {w : qk_W} {nc ns : Nat} {Q : Option Value ⊕ Nat → qk_W → Nat → Nat → Prop}  (h8 : (st.map fun v => Value.category v).sum ≤ 8) (k : Ev (d + 1) m_Ce_init 4 [some (.ref a0), o1] st w nc ns Q) : Ev (d + 1) m_Ce_init 0 [some (.ref a0), o1] st w nc ns Q := by
  refine ev_aload_n d_Ce_init_0 rfl rfl ?_
  exact ev_obj d_Ce_init_1 ob_Ce_3 ob_inst ob_code (by omega) h8 k
theorem t_Ce_init_4 {d : Nat} {st : List Value} {v0 : Value} {o1 : Option Value} {w : qk_W} {nc ns : Nat} {Q : Option Value ⊕ Nat → qk_W → Nat → Nat → Prop} (hv0 : qk_isr v0 = true) (v : Nat) (hv : 16 ≤ v) (hn : w v = none) (k : Ev d m_Ce_init 9 [some v0, o1] (.ref v :: v0 :: st) (qk_set w v (.inl (.object "QuakeLink$Track", 4, .inr (.inr (.inr (.inr (fun _ => none))))))) (nc + 1) (ns + 4) Q) : Ev d m_Ce_init 4 [some v0, o1] st w nc ns Q := by
  refine ev_aload_n d_Ce_init_4 rfl hv0 ?_
  refine ev_iconst 4 d_Ce_init_5 (by decide) ?_
  exact ev_anew (n0 := 0) v d_Ce_init_6 al_Ce_9.1 al_Ce_9.2 (by decide) (by decide) (by decide) (by decide) hv hn k
theorem t_Ce_init_9 {d : Nat} {st : List Value} {o0 : Option Value} {o1 : Option Value} {s0 : Value} {b1 : Nat} {fs2 : List Value} {w : qk_W} {nc ns : Nat} {Q : Option Value ⊕ Nat → qk_W → Nat → Nat → Prop} (hs0 : qk_isr s0 = true) (hw1 : wo w b1 5 fs2) (hk : 0 < fs2.length) (hz : qk_fit (qk_fty 5 0) s0 = true) (k : Ev d m_Ce_init 12 [o0, o1] st (qk_set w b1 (.inr (5, fs2.set 0 (s0)))) nc ns Q) : Ev d m_Ce_init 9 [o0, o1] (s0 :: .ref b1 :: st) w nc ns Q := by
  exact ev_putF d_Ce_init_9 fl_Ce_11 rfl rfl rfl hw1.1 hw1.2 hk hz k
theorem t_Ce_init_12 {d : Nat} {st : List Value} {o0 : Option Value} {o1 : Option Value} {w : qk_W} {nc ns : Nat} {Q : Option Value ⊕ Nat → qk_W → Nat → Nat → Prop}  (hc1 : qk_c2 [o0, o1] 1 = true) (k : Ev d m_Ce_init 14 [o0, some (.int 0)] st w nc ns Q) : Ev d m_Ce_init 12 [o0, o1] st w nc ns Q := by
  refine ev_iconst 0 d_Ce_init_12 (by decide) ?_
  refine ev_istore_n d_Ce_init_13 (by decide) hc1 ?_
  exact k
theorem t_Ce_init_14 {d : Nat} {st : List Value} {o0 : Option Value} {x1 : Int32} {w : qk_W} {nc ns : Nat} {Q : Option Value ⊕ Nat → qk_W → Nat → Nat → Prop}   (kt : (4 : Int32) ≤ x1 → Ev d m_Ce_init 38 [o0, some (.int x1)] st w nc ns Q) (kf : ¬ ((4 : Int32) ≤ x1) → Ev d m_Ce_init 19 [o0, some (.int x1)] st w nc ns Q) : Ev d m_Ce_init 14 [o0, some (.int x1)] st w nc ns Q := by
  refine ev_iload_n d_Ce_init_14 rfl ?_
  refine ev_iconst 4 d_Ce_init_15 (by decide) ?_
  exact ev_icmp_ge 38 d_Ce_init_16 (by decide) kt kf
theorem t_Ce_init_19 {d : Nat} {st : List Value} {a0 : Nat} {x1 : Int32} {fs2 : List Value} {c4 : Nat} {w : qk_W} {nc ns : Nat} {Q : Option Value ⊕ Nat → qk_W → Nat → Nat → Prop}  (v : Nat) (hv : 16 ≤ v) (hn : w v = none) (hw1 : wo w a0 5 fs2) (hf3 : fs2[0]? = some (.ref c4)) (k : Ev d m_Ce_init 27 [some (.ref a0), some (.int x1)] (.ref v :: .int x1 :: .ref c4 :: st) (qk_set w v (.inr (6, [.null, .int 0, .null]))) (nc + 1) (ns + 3) Q) : Ev d m_Ce_init 19 [some (.ref a0), some (.int x1)] st w nc ns Q := by
  refine ev_aload_n d_Ce_init_19 rfl rfl ?_
  refine ev_getf d_Ce_init_20 fl_Ce_11 hw1.1 hw1.2 hf3 ?_
  refine ev_iload_n d_Ce_init_23 rfl ?_
  exact ev_new v d_Ce_init_24 nl_Ce_9 hv hn k
theorem t_Ce_init_27 {d : Nat} {st : List Value} {o0 : Option Value} {o1 : Option Value} {b0 : Nat} {w : qk_W} {nc ns : Nat} {Q : Option Value ⊕ Nat → qk_W → Nat → Nat → Prop}  (h8 : ((.ref b0 :: st).map fun v => Value.category v).sum ≤ 8) (k : Ev d m_Tr_init 0 [some (.ref b0)] [] w nc ns (fun r w1 nc1 ns1 => match r with | .inl v => Ev (d + 1) m_Ce_init 31 [o0, o1] (v.toList ++ (.ref b0 :: st)) w1 nc1 ns1 Q | .inr x => Q (.inr x) w1 nc1 ns1)) : Ev (d + 1) m_Ce_init 27 [o0, o1] (.ref b0 :: st) w nc ns Q := by
  refine ev_dup d_Ce_init_27 rfl ?_
  exact ev_call (M' := m_Tr_init) (As := [.ref b0]) (st := (.ref b0 :: st)) d_Ce_init_28 i_Tr_init ii_Tr_init cw_Ce_17 rfl rfl trivial rfl (Nat.le_of_ble_eq_true rfl) h8 k
theorem t_Ce_init_31 {d : Nat} {st : List Value} {o0 : Option Value} {o1 : Option Value} {b0 : Nat} {y1 : Int32} {b2 : Nat} {n2 : Nat} {f3 : Nat → Option Nat} {vs : List Value} {w : qk_W} {nc ns : Nat} {Q : Option Value ⊕ Nat → qk_W → Nat → Nat → Prop}  (ha1 : wr "QuakeLink$Track" w b2 n2 f3) (hi : vp_in y1 n2) (hv : wo w b0 6 vs) (k : Ev d m_Ce_init 32 [o0, o1] st (qk_set w b2 (.inl (.object "QuakeLink$Track", n2, .inr (.inr (.inr (.inr (va_up f3 y1.toNatClampNeg (some b0)))))))) nc ns Q) : Ev d m_Ce_init 31 [o0, o1] (.ref b0 :: .int y1 :: .ref b2 :: st) w nc ns Q := by
  exact ev_aast (ci := 6) d_Ce_init_31 ha1.1 hv.1 rfl (by decide) ha1.2 hv.2 hi k
theorem t_Ce_init_32 {d : Nat} {st : List Value} {o0 : Option Value} {x1 : Int32} {w : qk_W} {nc ns : Nat} {Q : Option Value ⊕ Nat → qk_W → Nat → Nat → Prop}  (hc1 : qk_c2 [o0, some (.int x1)] 1 = true) (k : Ev d m_Ce_init 14 [o0, some (.int (x1 + 1))] st w nc ns Q) : Ev d m_Ce_init 32 [o0, some (.int x1)] st w nc ns Q := by
  refine ev_iinc 1 d_Ce_init_32 (by decide) rfl (by decide) hc1 ?_
  refine ev_goto 14 d_Ce_init_35 (by decide) ?_
  exact k
theorem t_Ce_init_38 {d : Nat} {o0 : Option Value} {o1 : Option Value} {w : qk_W} {nc ns : Nat} {Q : Option Value ⊕ Nat → qk_W → Nat → Nat → Prop}   (hq : Q (.inl none) w nc ns) : Ev d m_Ce_init 38 [o0, o1] [] w nc ns Q := by
  exact ev_vret d_Ce_init_38 rfl hq
/-! St_sendNext -/
theorem cw_St_48 : qk_cw "QuakeLink$Station" m_St_firstThatWaits.1 (.invokevirtual 48) := ⟨(lw_i1 _ (List.mem_of_getElem? (i := 180) rfl)), (lw_i1 _ (List.mem_of_getElem? (i := 182) rfl)), (lw_i0 _ (List.mem_of_getElem? (i := 0) rfl))⟩
theorem cw_St_52 : qk_cw "QuakeLink$Station" m_St_leastAsked.1 (.invokevirtual 52) := ⟨(lw_i2 _ (List.mem_of_getElem? (i := 42) rfl)), (lw_i2 _ (List.mem_of_getElem? (i := 44) rfl)), (lw_i0 _ (List.mem_of_getElem? (i := 4) rfl))⟩
theorem fl_St_55 : qk_fl "QuakeLink$Station" 55 1 4 := ⟨_, rfl, by decide, rfl, (lw_i1 _ (List.mem_of_getElem? (i := 92) rfl))⟩
theorem cw_St_59 : qk_cw "QuakeLink$Station" m_Ch_sendWaiting.1 (.invokevirtual 59) := ⟨(lw_i2 _ (List.mem_of_getElem? (i := 59) rfl)), (lw_i2 _ (List.mem_of_getElem? (i := 60) rfl)), (lw_i2 _ (List.mem_of_getElem? (i := 61) rfl))⟩
theorem cw_St_63 : qk_cw "QuakeLink$Station" m_Ch_sendAsked.1 (.invokevirtual 63) := ⟨(lw_i2 _ (List.mem_of_getElem? (i := 99) rfl)), (lw_i2 _ (List.mem_of_getElem? (i := 100) rfl)), (lw_i2 _ (List.mem_of_getElem? (i := 101) rfl))⟩
theorem d_St_sendNext_0 : decode m_St_sendNext.2.1 0 = .ok (.aload_n 0, 1) := by decide +kernel
theorem d_St_sendNext_1 : decode m_St_sendNext.2.1 1 = .ok (.invokevirtual 48, 3) := by decide +kernel
theorem d_St_sendNext_4 : decode m_St_sendNext.2.1 4 = .ok (.astore_n 2, 1) := by decide +kernel
theorem d_St_sendNext_5 : decode m_St_sendNext.2.1 5 = .ok (.aload_n 0, 1) := by decide +kernel
theorem d_St_sendNext_6 : decode m_St_sendNext.2.1 6 = .ok (.invokevirtual 52, 3) := by decide +kernel
theorem d_St_sendNext_9 : decode m_St_sendNext.2.1 9 = .ok (.astore_n 3, 1) := by decide +kernel
theorem d_St_sendNext_10 : decode m_St_sendNext.2.1 10 = .ok (.aload_n 2, 1) := by decide +kernel
theorem d_St_sendNext_11 : decode m_St_sendNext.2.1 11 = .ok (.ifnull 26, 3) := by decide +kernel
theorem d_St_sendNext_14 : decode m_St_sendNext.2.1 14 = .ok (.aload_n 3, 1) := by decide +kernel
theorem d_St_sendNext_15 : decode m_St_sendNext.2.1 15 = .ok (.ifnull 10, 3) := by decide +kernel
theorem d_St_sendNext_18 : decode m_St_sendNext.2.1 18 = .ok (.aload_n 0, 1) := by decide +kernel
theorem d_St_sendNext_19 : decode m_St_sendNext.2.1 19 = .ok (.getfield 55, 3) := by decide +kernel
theorem d_St_sendNext_22 : decode m_St_sendNext.2.1 22 = .ok (.ifCond .ne 15, 3) := by decide +kernel
theorem d_St_sendNext_25 : decode m_St_sendNext.2.1 25 = .ok (.aload_n 2, 1) := by decide +kernel
theorem d_St_sendNext_26 : decode m_St_sendNext.2.1 26 = .ok (.aload_n 1, 1) := by decide +kernel
theorem d_St_sendNext_27 : decode m_St_sendNext.2.1 27 = .ok (.invokevirtual 59, 3) := by decide +kernel
theorem d_St_sendNext_30 : decode m_St_sendNext.2.1 30 = .ok (.aload_n 0, 1) := by decide +kernel
theorem d_St_sendNext_31 : decode m_St_sendNext.2.1 31 = .ok (.iconst 1, 1) := by decide +kernel
theorem d_St_sendNext_32 : decode m_St_sendNext.2.1 32 = .ok (.putfield 55, 3) := by decide +kernel
theorem d_St_sendNext_35 : decode m_St_sendNext.2.1 35 = .ok (.iconst 1, 1) := by decide +kernel
theorem d_St_sendNext_36 : decode m_St_sendNext.2.1 36 = .ok (.ireturn, 1) := by decide +kernel
theorem d_St_sendNext_37 : decode m_St_sendNext.2.1 37 = .ok (.aload_n 3, 1) := by decide +kernel
theorem d_St_sendNext_38 : decode m_St_sendNext.2.1 38 = .ok (.ifnull 15, 3) := by decide +kernel
theorem d_St_sendNext_41 : decode m_St_sendNext.2.1 41 = .ok (.aload_n 3, 1) := by decide +kernel
theorem d_St_sendNext_42 : decode m_St_sendNext.2.1 42 = .ok (.aload_n 1, 1) := by decide +kernel
theorem d_St_sendNext_43 : decode m_St_sendNext.2.1 43 = .ok (.invokevirtual 63, 3) := by decide +kernel
theorem d_St_sendNext_46 : decode m_St_sendNext.2.1 46 = .ok (.aload_n 0, 1) := by decide +kernel
theorem d_St_sendNext_47 : decode m_St_sendNext.2.1 47 = .ok (.iconst 0, 1) := by decide +kernel
theorem d_St_sendNext_48 : decode m_St_sendNext.2.1 48 = .ok (.putfield 55, 3) := by decide +kernel
theorem d_St_sendNext_51 : decode m_St_sendNext.2.1 51 = .ok (.iconst 1, 1) := by decide +kernel
theorem d_St_sendNext_52 : decode m_St_sendNext.2.1 52 = .ok (.ireturn, 1) := by decide +kernel
theorem d_St_sendNext_53 : decode m_St_sendNext.2.1 53 = .ok (.iconst 0, 1) := by decide +kernel
theorem d_St_sendNext_54 : decode m_St_sendNext.2.1 54 = .ok (.ireturn, 1) := by decide +kernel
theorem t_St_sendNext_0 {d : Nat} {st : List Value} {a0 : Nat} {o1 : Option Value} {o2 : Option Value} {o3 : Option Value} {fsb : List Value} {w : qk_W} {nc ns : Nat} {Q : Option Value ⊕ Nat → qk_W → Nat → Nat → Prop}  (hb : wo w a0 1 fsb) (h8 : (st.map fun v => Value.category v).sum ≤ 8) (k : Ev d m_St_firstThatWaits 0 [some (.ref a0), none, none, none, none] [] w nc ns (fun r w1 nc1 ns1 => match r with | .inl v => Ev (d + 1) m_St_sendNext 4 [some (.ref a0), o1, o2, o3] (v.toList ++ st) w1 nc1 ns1 Q | .inr x => Q (.inr x) w1 nc1 ns1)) : Ev (d + 1) m_St_sendNext 0 [some (.ref a0), o1, o2, o3] st w nc ns Q := by
  refine ev_aload_n d_St_sendNext_0 rfl rfl ?_
  exact ev_call (M' := m_St_firstThatWaits) (As := [.ref a0]) (st := st) d_St_sendNext_1 i_St_firstThatWaits (fun h => absurd h (by decide +kernel)) cw_St_48 rfl rfl ⟨hb.1, 1, _, _, hb.2, rfl, rfl⟩ rfl (Nat.le_of_ble_eq_true rfl) h8 k
theorem t_St_sendNext_4 {d : Nat} {st : List Value} {a0 : Nat} {o1 : Option Value} {o2 : Option Value} {o3 : Option Value} {s0 : Value} {fsb : List Value} {w : qk_W} {nc ns : Nat} {Q : Option Value ⊕ Nat → qk_W → Nat → Nat → Prop} (hs0 : qk_isr s0 = true) (hc1 : qk_c2 [some (.ref a0), o1, o2, o3] 2 = true) (hb : wo w a0 1 fsb) (h8 : (st.map fun v => Value.category v).sum ≤ 8) (k : Ev d m_St_leastAsked 0 [some (.ref a0), none, none, none, none] [] w nc ns (fun r w1 nc1 ns1 => match r with | .inl v => Ev (d + 1) m_St_sendNext 9 [some (.ref a0), o1, some s0, o3] (v.toList ++ st) w1 nc1 ns1 Q | .inr x => Q (.inr x) w1 nc1 ns1)) : Ev (d + 1) m_St_sendNext 4 [some (.ref a0), o1, o2, o3] (s0 :: st) w nc ns Q := by
  refine ev_astore_n d_St_sendNext_4 hs0 (by decide) hc1 ?_
  refine ev_aload_n d_St_sendNext_5 rfl rfl ?_
  exact ev_call (M' := m_St_leastAsked) (As := [.ref a0]) (st := st) d_St_sendNext_6 i_St_leastAsked (fun h => absurd h (by decide +kernel)) cw_St_52 rfl rfl ⟨hb.1, 1, _, _, hb.2, rfl, rfl⟩ rfl (Nat.le_of_ble_eq_true rfl) h8 k
theorem t_St_sendNext_9 {d : Nat} {st : List Value} {o0 : Option Value} {o1 : Option Value} {a2 : Nat} {o3 : Option Value} {s0 : Value} {w : qk_W} {nc ns : Nat} {Q : Option Value ⊕ Nat → qk_W → Nat → Nat → Prop} (hs0 : qk_isr s0 = true) (hc1 : qk_c2 [o0, o1, some (.ref a2), o3] 3 = true) (k : Ev d m_St_sendNext 14 [o0, o1, some (.ref a2), some s0] st w nc ns Q) : Ev d m_St_sendNext 9 [o0, o1, some (.ref a2), o3] (s0 :: st) w nc ns Q := by
  refine ev_astore_n d_St_sendNext_9 hs0 (by decide) hc1 ?_
  refine ev_aload_n d_St_sendNext_10 rfl rfl ?_
  refine ev_ifnull_r d_St_sendNext_11 ?_
  exact k
theorem t_St_sendNext_9n {d : Nat} {st : List Value} {o0 : Option Value} {o1 : Option Value}  {o3 : Option Value} {s0 : Value} {w : qk_W} {nc ns : Nat} {Q : Option Value ⊕ Nat → qk_W → Nat → Nat → Prop} (hs0 : qk_isr s0 = true) (hc1 : qk_c2 [o0, o1, some (.null), o3] 3 = true) (k : Ev d m_St_sendNext 37 [o0, o1, some (.null), some s0] st w nc ns Q) : Ev d m_St_sendNext 9 [o0, o1, some (.null), o3] (s0 :: st) w nc ns Q := by
  refine ev_astore_n d_St_sendNext_9 hs0 (by decide) hc1 ?_
  refine ev_aload_n d_St_sendNext_10 rfl rfl ?_
  refine ev_ifnull_n 37 d_St_sendNext_11 (by decide) ?_
  exact k
theorem t_St_sendNext_14 {d : Nat} {st : List Value} {o0 : Option Value} {o1 : Option Value} {o2 : Option Value} {a3 : Nat} {w : qk_W} {nc ns : Nat} {Q : Option Value ⊕ Nat → qk_W → Nat → Nat → Prop}   (k : Ev d m_St_sendNext 18 [o0, o1, o2, some (.ref a3)] st w nc ns Q) : Ev d m_St_sendNext 14 [o0, o1, o2, some (.ref a3)] st w nc ns Q := by
  refine ev_aload_n d_St_sendNext_14 rfl rfl ?_
  refine ev_ifnull_r d_St_sendNext_15 ?_
  exact k
theorem t_St_sendNext_14n {d : Nat} {st : List Value} {o0 : Option Value} {o1 : Option Value} {o2 : Option Value}  {w : qk_W} {nc ns : Nat} {Q : Option Value ⊕ Nat → qk_W → Nat → Nat → Prop}   (k : Ev d m_St_sendNext 25 [o0, o1, o2, some (.null)] st w nc ns Q) : Ev d m_St_sendNext 14 [o0, o1, o2, some (.null)] st w nc ns Q := by
  refine ev_aload_n d_St_sendNext_14 rfl rfl ?_
  refine ev_ifnull_n 25 d_St_sendNext_15 (by decide) ?_
  exact k
theorem t_St_sendNext_18 {d : Nat} {st : List Value} {a0 : Nat} {o1 : Option Value} {o2 : Option Value} {o3 : Option Value} {fs2 : List Value} {n4 : Int32} {w : qk_W} {nc ns : Nat} {Q : Option Value ⊕ Nat → qk_W → Nat → Nat → Prop}  (hw1 : wo w a0 1 fs2) (hf3 : fs2[4]? = some (.int n4)) (kt : ¬ n4 = 0 → Ev d m_St_sendNext 37 [some (.ref a0), o1, o2, o3] st w nc ns Q) (kf : n4 = 0 → Ev d m_St_sendNext 25 [some (.ref a0), o1, o2, o3] st w nc ns Q) : Ev d m_St_sendNext 18 [some (.ref a0), o1, o2, o3] st w nc ns Q := by
  refine ev_aload_n d_St_sendNext_18 rfl rfl ?_
  refine ev_getf d_St_sendNext_19 fl_St_55 hw1.1 hw1.2 hf3 ?_
  exact ev_if_ne 37 d_St_sendNext_22 (by decide) kt kf
theorem t_St_sendNext_25 {d : Nat} {st : List Value} {o0 : Option Value} {a1 : Nat} {a2 : Nat} {o3 : Option Value} {fsb : List Value} {w : qk_W} {nc ns : Nat} {Q : Option Value ⊕ Nat → qk_W → Nat → Nat → Prop}  (hb : wo w a2 2 fsb) (h8 : (st.map fun v => Value.category v).sum ≤ 8) (k : Ev d m_Ch_sendWaiting 0 [some (.ref a2), some (.ref a1), none] [] w nc ns (fun r w1 nc1 ns1 => match r with | .inl v => Ev (d + 1) m_St_sendNext 30 [o0, some (.ref a1), some (.ref a2), o3] (v.toList ++ st) w1 nc1 ns1 Q | .inr x => Q (.inr x) w1 nc1 ns1)) : Ev (d + 1) m_St_sendNext 25 [o0, some (.ref a1), some (.ref a2), o3] st w nc ns Q := by
  refine ev_aload_n d_St_sendNext_25 rfl rfl ?_
  refine ev_aload_n d_St_sendNext_26 rfl rfl ?_
  exact ev_call (M' := m_Ch_sendWaiting) (As := [.ref a2, .ref a1]) (st := st) d_St_sendNext_27 i_Ch_sendWaiting (fun h => absurd h (by decide +kernel)) cw_St_59 rfl rfl ⟨hb.1, 2, _, _, hb.2, rfl, rfl⟩ rfl (Nat.le_of_ble_eq_true rfl) h8 k
theorem t_St_sendNext_30 {d : Nat} {st : List Value} {a0 : Nat} {o1 : Option Value} {o2 : Option Value} {o3 : Option Value} {fs2 : List Value} {w : qk_W} {nc ns : Nat} {Q : Option Value ⊕ Nat → qk_W → Nat → Nat → Prop}  (hw1 : wo w a0 1 fs2) (hk : 4 < fs2.length) (k : Ev d m_St_sendNext 35 [some (.ref a0), o1, o2, o3] st (qk_set w a0 (.inr (1, fs2.set 4 (.int 1)))) nc ns Q) : Ev d m_St_sendNext 30 [some (.ref a0), o1, o2, o3] st w nc ns Q := by
  refine ev_aload_n d_St_sendNext_30 rfl rfl ?_
  refine ev_iconst 1 d_St_sendNext_31 (by decide) ?_
  exact ev_putf d_St_sendNext_32 fl_St_55 rfl hw1.1 hw1.2 hk rfl k
theorem t_St_sendNext_35 {d : Nat} {o0 : Option Value} {o1 : Option Value} {o2 : Option Value} {o3 : Option Value} {w : qk_W} {nc ns : Nat} {Q : Option Value ⊕ Nat → qk_W → Nat → Nat → Prop}   (hq : Q (.inl (some (.int 1))) w nc ns) : Ev d m_St_sendNext 35 [o0, o1, o2, o3] [] w nc ns Q := by
  refine ev_iconst 1 d_St_sendNext_35 (by decide) ?_
  exact ev_iret d_St_sendNext_36 rfl rfl hq
theorem t_St_sendNext_37 {d : Nat} {st : List Value} {o0 : Option Value} {o1 : Option Value} {o2 : Option Value} {a3 : Nat} {w : qk_W} {nc ns : Nat} {Q : Option Value ⊕ Nat → qk_W → Nat → Nat → Prop}   (k : Ev d m_St_sendNext 41 [o0, o1, o2, some (.ref a3)] st w nc ns Q) : Ev d m_St_sendNext 37 [o0, o1, o2, some (.ref a3)] st w nc ns Q := by
  refine ev_aload_n d_St_sendNext_37 rfl rfl ?_
  refine ev_ifnull_r d_St_sendNext_38 ?_
  exact k
theorem t_St_sendNext_37n {d : Nat} {st : List Value} {o0 : Option Value} {o1 : Option Value} {o2 : Option Value}  {w : qk_W} {nc ns : Nat} {Q : Option Value ⊕ Nat → qk_W → Nat → Nat → Prop}   (k : Ev d m_St_sendNext 53 [o0, o1, o2, some (.null)] st w nc ns Q) : Ev d m_St_sendNext 37 [o0, o1, o2, some (.null)] st w nc ns Q := by
  refine ev_aload_n d_St_sendNext_37 rfl rfl ?_
  refine ev_ifnull_n 53 d_St_sendNext_38 (by decide) ?_
  exact k
theorem t_St_sendNext_41 {d : Nat} {st : List Value} {o0 : Option Value} {a1 : Nat} {o2 : Option Value} {a3 : Nat} {fsb : List Value} {w : qk_W} {nc ns : Nat} {Q : Option Value ⊕ Nat → qk_W → Nat → Nat → Prop}  (hb : wo w a3 2 fsb) (h8 : (st.map fun v => Value.category v).sum ≤ 8) (k : Ev d m_Ch_sendAsked 0 [some (.ref a3), some (.ref a1), none, none, none] [] w nc ns (fun r w1 nc1 ns1 => match r with | .inl v => Ev (d + 1) m_St_sendNext 46 [o0, some (.ref a1), o2, some (.ref a3)] (v.toList ++ st) w1 nc1 ns1 Q | .inr x => Q (.inr x) w1 nc1 ns1)) : Ev (d + 1) m_St_sendNext 41 [o0, some (.ref a1), o2, some (.ref a3)] st w nc ns Q := by
  refine ev_aload_n d_St_sendNext_41 rfl rfl ?_
  refine ev_aload_n d_St_sendNext_42 rfl rfl ?_
  exact ev_call (M' := m_Ch_sendAsked) (As := [.ref a3, .ref a1]) (st := st) d_St_sendNext_43 i_Ch_sendAsked (fun h => absurd h (by decide +kernel)) cw_St_63 rfl rfl ⟨hb.1, 2, _, _, hb.2, rfl, rfl⟩ rfl (Nat.le_of_ble_eq_true rfl) h8 k
theorem t_St_sendNext_46 {d : Nat} {st : List Value} {a0 : Nat} {o1 : Option Value} {o2 : Option Value} {o3 : Option Value} {fs2 : List Value} {w : qk_W} {nc ns : Nat} {Q : Option Value ⊕ Nat → qk_W → Nat → Nat → Prop}  (hw1 : wo w a0 1 fs2) (hk : 4 < fs2.length) (k : Ev d m_St_sendNext 51 [some (.ref a0), o1, o2, o3] st (qk_set w a0 (.inr (1, fs2.set 4 (.int 0)))) nc ns Q) : Ev d m_St_sendNext 46 [some (.ref a0), o1, o2, o3] st w nc ns Q := by
  refine ev_aload_n d_St_sendNext_46 rfl rfl ?_
  refine ev_iconst 0 d_St_sendNext_47 (by decide) ?_
  exact ev_putf d_St_sendNext_48 fl_St_55 rfl hw1.1 hw1.2 hk rfl k
theorem t_St_sendNext_51 {d : Nat} {o0 : Option Value} {o1 : Option Value} {o2 : Option Value} {o3 : Option Value} {w : qk_W} {nc ns : Nat} {Q : Option Value ⊕ Nat → qk_W → Nat → Nat → Prop}   (hq : Q (.inl (some (.int 1))) w nc ns) : Ev d m_St_sendNext 51 [o0, o1, o2, o3] [] w nc ns Q := by
  refine ev_iconst 1 d_St_sendNext_51 (by decide) ?_
  exact ev_iret d_St_sendNext_52 rfl rfl hq
theorem t_St_sendNext_53 {d : Nat} {o0 : Option Value} {o1 : Option Value} {o2 : Option Value} {o3 : Option Value} {w : qk_W} {nc ns : Nat} {Q : Option Value ⊕ Nat → qk_W → Nat → Nat → Prop}   (hq : Q (.inl (some (.int 0))) w nc ns) : Ev d m_St_sendNext 53 [o0, o1, o2, o3] [] w nc ns Q := by
  refine ev_iconst 0 d_St_sendNext_53 (by decide) ?_
  exact ev_iret d_St_sendNext_54 rfl rfl hq
/-! St_firstThatWaits -/
theorem cw_St_45 : qk_cw "QuakeLink$Station" m_Ch_howManyWait.1 (.invokevirtual 45) := ⟨(lw_i1 _ (List.mem_of_getElem? (i := 184) rfl)), (lw_i1 _ (List.mem_of_getElem? (i := 185) rfl)), (lw_i1 _ (List.mem_of_getElem? (i := 186) rfl))⟩
theorem cw_St_94 : qk_cw "QuakeLink$Station" m_Ch_orderOfFirstThatWaits.1 (.invokevirtual 94) := ⟨(lw_i1 _ (List.mem_of_getElem? (i := 206) rfl)), (lw_i1 _ (List.mem_of_getElem? (i := 207) rfl)), (lw_i1 _ (List.mem_of_getElem? (i := 208) rfl))⟩
theorem d_St_firstThatWaits_0 : decode m_St_firstThatWaits.2.1 0 = .ok (.aconst_null, 1) := by decide +kernel
theorem d_St_firstThatWaits_1 : decode m_St_firstThatWaits.2.1 1 = .ok (.astore_n 1, 1) := by decide +kernel
theorem d_St_firstThatWaits_2 : decode m_St_firstThatWaits.2.1 2 = .ok (.iconst 0, 1) := by decide +kernel
theorem d_St_firstThatWaits_3 : decode m_St_firstThatWaits.2.1 3 = .ok (.istore_n 2, 1) := by decide +kernel
theorem d_St_firstThatWaits_4 : decode m_St_firstThatWaits.2.1 4 = .ok (.iconst 0, 1) := by decide +kernel
theorem d_St_firstThatWaits_5 : decode m_St_firstThatWaits.2.1 5 = .ok (.istore_n 3, 1) := by decide +kernel
theorem d_St_firstThatWaits_6 : decode m_St_firstThatWaits.2.1 6 = .ok (.iload_n 3, 1) := by decide +kernel
theorem d_St_firstThatWaits_7 : decode m_St_firstThatWaits.2.1 7 = .ok (.iconst 4, 1) := by decide +kernel
theorem d_St_firstThatWaits_8 : decode m_St_firstThatWaits.2.1 8 = .ok (.if_icmp .ge 52, 3) := by decide +kernel
theorem d_St_firstThatWaits_11 : decode m_St_firstThatWaits.2.1 11 = .ok (.aload_n 0, 1) := by decide +kernel
theorem d_St_firstThatWaits_12 : decode m_St_firstThatWaits.2.1 12 = .ok (.getfield 11, 3) := by decide +kernel
theorem d_St_firstThatWaits_15 : decode m_St_firstThatWaits.2.1 15 = .ok (.iload_n 3, 1) := by decide +kernel
theorem d_St_firstThatWaits_16 : decode m_St_firstThatWaits.2.1 16 = .ok (.aaload, 1) := by decide +kernel
theorem d_St_firstThatWaits_17 : decode m_St_firstThatWaits.2.1 17 = .ok (.invokevirtual 45, 3) := by decide +kernel
theorem d_St_firstThatWaits_20 : decode m_St_firstThatWaits.2.1 20 = .ok (.ifCond .le 34, 3) := by decide +kernel
theorem d_St_firstThatWaits_23 : decode m_St_firstThatWaits.2.1 23 = .ok (.aload_n 0, 1) := by decide +kernel
theorem d_St_firstThatWaits_24 : decode m_St_firstThatWaits.2.1 24 = .ok (.getfield 11, 3) := by decide +kernel
theorem d_St_firstThatWaits_27 : decode m_St_firstThatWaits.2.1 27 = .ok (.iload_n 3, 1) := by decide +kernel
theorem d_St_firstThatWaits_28 : decode m_St_firstThatWaits.2.1 28 = .ok (.aaload, 1) := by decide +kernel
theorem d_St_firstThatWaits_29 : decode m_St_firstThatWaits.2.1 29 = .ok (.invokevirtual 94, 3) := by decide +kernel
theorem d_St_firstThatWaits_32 : decode m_St_firstThatWaits.2.1 32 = .ok (.istore 4, 2) := by decide +kernel
theorem d_St_firstThatWaits_34 : decode m_St_firstThatWaits.2.1 34 = .ok (.aload_n 1, 1) := by decide +kernel
theorem d_St_firstThatWaits_35 : decode m_St_firstThatWaits.2.1 35 = .ok (.ifnull 9, 3) := by decide +kernel
theorem d_St_firstThatWaits_38 : decode m_St_firstThatWaits.2.1 38 = .ok (.iload 4, 2) := by decide +kernel
theorem d_St_firstThatWaits_40 : decode m_St_firstThatWaits.2.1 40 = .ok (.iload_n 2, 1) := by decide +kernel
theorem d_St_firstThatWaits_41 : decode m_St_firstThatWaits.2.1 41 = .ok (.if_icmp .ge 13, 3) := by decide +kernel
theorem d_St_firstThatWaits_44 : decode m_St_firstThatWaits.2.1 44 = .ok (.aload_n 0, 1) := by decide +kernel
theorem d_St_firstThatWaits_45 : decode m_St_firstThatWaits.2.1 45 = .ok (.getfield 11, 3) := by decide +kernel
theorem d_St_firstThatWaits_48 : decode m_St_firstThatWaits.2.1 48 = .ok (.iload_n 3, 1) := by decide +kernel
theorem d_St_firstThatWaits_49 : decode m_St_firstThatWaits.2.1 49 = .ok (.aaload, 1) := by decide +kernel
theorem d_St_firstThatWaits_50 : decode m_St_firstThatWaits.2.1 50 = .ok (.astore_n 1, 1) := by decide +kernel
theorem d_St_firstThatWaits_51 : decode m_St_firstThatWaits.2.1 51 = .ok (.iload 4, 2) := by decide +kernel
theorem d_St_firstThatWaits_53 : decode m_St_firstThatWaits.2.1 53 = .ok (.istore_n 2, 1) := by decide +kernel
theorem d_St_firstThatWaits_54 : decode m_St_firstThatWaits.2.1 54 = .ok (.iinc 3 1, 3) := by decide +kernel
theorem d_St_firstThatWaits_57 : decode m_St_firstThatWaits.2.1 57 = .ok (.goto (-51), 3) := by decide +kernel
theorem d_St_firstThatWaits_60 : decode m_St_firstThatWaits.2.1 60 = .ok (.aload_n 1, 1) := by decide +kernel
theorem d_St_firstThatWaits_61 : decode m_St_firstThatWaits.2.1 61 = .ok (.areturn, 1) := by decide +kernel
theorem t_St_firstThatWaits_0 {d : Nat} {st : List Value} {o0 : Option Value} {o1 : Option Value} {o2 : Option Value} {o3 : Option Value} {o4 : Option Value} {w : qk_W} {nc ns : Nat} {Q : Option Value ⊕ Nat → qk_W → Nat → Nat → Prop}  (hc1 : qk_c2 [o0, o1, o2, o3, o4] 1 = true) (k : Ev d m_St_firstThatWaits 6 [o0, some (.null), some (.int 0), some (.int 0), o4] st w nc ns Q) : Ev d m_St_firstThatWaits 0 [o0, o1, o2, o3, o4] st w nc ns Q := by
  refine ev_null d_St_firstThatWaits_0 ?_
  refine ev_astore_n d_St_firstThatWaits_1 rfl (by decide) hc1 ?_
  refine ev_iconst 0 d_St_firstThatWaits_2 (by decide) ?_
  refine ev_istore_n d_St_firstThatWaits_3 (by decide) rfl ?_
  refine ev_iconst 0 d_St_firstThatWaits_4 (by decide) ?_
  refine ev_istore_n d_St_firstThatWaits_5 (by decide) rfl ?_
  exact k
theorem t_St_firstThatWaits_6 {d : Nat} {st : List Value} {o0 : Option Value} {o1 : Option Value} {o2 : Option Value} {x3 : Int32} {o4 : Option Value} {w : qk_W} {nc ns : Nat} {Q : Option Value ⊕ Nat → qk_W → Nat → Nat → Prop}   (kt : (4 : Int32) ≤ x3 → Ev d m_St_firstThatWaits 60 [o0, o1, o2, some (.int x3), o4] st w nc ns Q) (kf : ¬ ((4 : Int32) ≤ x3) → Ev d m_St_firstThatWaits 11 [o0, o1, o2, some (.int x3), o4] st w nc ns Q) : Ev d m_St_firstThatWaits 6 [o0, o1, o2, some (.int x3), o4] st w nc ns Q := by
  refine ev_iload_n d_St_firstThatWaits_6 rfl ?_
  refine ev_iconst 4 d_St_firstThatWaits_7 (by decide) ?_
  exact ev_icmp_ge 60 d_St_firstThatWaits_8 (by decide) kt kf
theorem t_St_firstThatWaits_11 {d : Nat} {st : List Value} {a0 : Nat} {o1 : Option Value} {o2 : Option Value} {x3 : Int32} {o4 : Option Value} {fs2 : List Value} {c4 : Nat} {n6 : Nat} {f7 : Nat → Option Nat} {c10 : Nat} {fsb : List Value} {w : qk_W} {nc ns : Nat} {Q : Option Value ⊕ Nat → qk_W → Nat → Nat → Prop}  (hw1 : wo w a0 1 fs2) (hf3 : fs2[0]? = some (.ref c4)) (ha5 : wr "QuakeLink$Channel" w c4 n6 f7) (hi8 : vp_in x3 n6) (hr9 : f7 x3.toNatClampNeg = some c10) (hb : wo w c10 2 fsb) (h8 : (st.map fun v => Value.category v).sum ≤ 8) (k : Ev d m_Ch_howManyWait 0 [some (.ref c10)] [] w nc ns (fun r w1 nc1 ns1 => match r with | .inl v => Ev (d + 1) m_St_firstThatWaits 20 [some (.ref a0), o1, o2, some (.int x3), o4] (v.toList ++ st) w1 nc1 ns1 Q | .inr x => Q (.inr x) w1 nc1 ns1)) : Ev (d + 1) m_St_firstThatWaits 11 [some (.ref a0), o1, o2, some (.int x3), o4] st w nc ns Q := by
  refine ev_aload_n d_St_firstThatWaits_11 rfl rfl ?_
  refine ev_getf d_St_firstThatWaits_12 fl_St_11 hw1.1 hw1.2 hf3 ?_
  refine ev_iload_n d_St_firstThatWaits_15 rfl ?_
  refine ev_aald d_St_firstThatWaits_16 ha5.1 (by decide) ha5.2 hi8 ?_
  rw [hr9]
  show Ev _ _ _ _ (Value.ref c10 :: _) _ _ _ _
  exact ev_call (M' := m_Ch_howManyWait) (As := [.ref c10]) (st := st) d_St_firstThatWaits_17 i_Ch_howManyWait (fun h => absurd h (by decide +kernel)) cw_St_45 rfl rfl ⟨hb.1, 2, _, _, hb.2, rfl, rfl⟩ rfl (Nat.le_of_ble_eq_true rfl) h8 k
theorem t_St_firstThatWaits_20 {d : Nat} {st : List Value} {o0 : Option Value} {o1 : Option Value} {o2 : Option Value} {o3 : Option Value} {o4 : Option Value} {y0 : Int32} {w : qk_W} {nc ns : Nat} {Q : Option Value ⊕ Nat → qk_W → Nat → Nat → Prop}   (kt : y0 ≤ 0 → Ev d m_St_firstThatWaits 54 [o0, o1, o2, o3, o4] st w nc ns Q) (kf : ¬ (y0 ≤ 0) → Ev d m_St_firstThatWaits 23 [o0, o1, o2, o3, o4] st w nc ns Q) : Ev d m_St_firstThatWaits 20 [o0, o1, o2, o3, o4] (.int y0 :: st) w nc ns Q := by
  exact ev_if_le 54 d_St_firstThatWaits_20 (by decide) kt kf
theorem t_St_firstThatWaits_23 {d : Nat} {st : List Value} {a0 : Nat} {o1 : Option Value} {o2 : Option Value} {x3 : Int32} {o4 : Option Value} {fs2 : List Value} {c4 : Nat} {n6 : Nat} {f7 : Nat → Option Nat} {c10 : Nat} {fsb : List Value} {w : qk_W} {nc ns : Nat} {Q : Option Value ⊕ Nat → qk_W → Nat → Nat → Prop}  (hw1 : wo w a0 1 fs2) (hf3 : fs2[0]? = some (.ref c4)) (ha5 : wr "QuakeLink$Channel" w c4 n6 f7) (hi8 : vp_in x3 n6) (hr9 : f7 x3.toNatClampNeg = some c10) (hb : wo w c10 2 fsb) (h8 : (st.map fun v => Value.category v).sum ≤ 8) (k : Ev d m_Ch_orderOfFirstThatWaits 0 [some (.ref c10)] [] w nc ns (fun r w1 nc1 ns1 => match r with | .inl v => Ev (d + 1) m_St_firstThatWaits 32 [some (.ref a0), o1, o2, some (.int x3), o4] (v.toList ++ st) w1 nc1 ns1 Q | .inr x => Q (.inr x) w1 nc1 ns1)) : Ev (d + 1) m_St_firstThatWaits 23 [some (.ref a0), o1, o2, some (.int x3), o4] st w nc ns Q := by
  refine ev_aload_n d_St_firstThatWaits_23 rfl rfl ?_
  refine ev_getf d_St_firstThatWaits_24 fl_St_11 hw1.1 hw1.2 hf3 ?_
  refine ev_iload_n d_St_firstThatWaits_27 rfl ?_
  refine ev_aald d_St_firstThatWaits_28 ha5.1 (by decide) ha5.2 hi8 ?_
  rw [hr9]
  show Ev _ _ _ _ (Value.ref c10 :: _) _ _ _ _
  exact ev_call (M' := m_Ch_orderOfFirstThatWaits) (As := [.ref c10]) (st := st) d_St_firstThatWaits_29 i_Ch_orderOfFirstThatWaits (fun h => absurd h (by decide +kernel)) cw_St_94 rfl rfl ⟨hb.1, 2, _, _, hb.2, rfl, rfl⟩ rfl (Nat.le_of_ble_eq_true rfl) h8 k
theorem t_St_firstThatWaits_32 {d : Nat} {st : List Value} {o0 : Option Value} {a1 : Nat} {o2 : Option Value} {o3 : Option Value} {o4 : Option Value} {y0 : Int32} {w : qk_W} {nc ns : Nat} {Q : Option Value ⊕ Nat → qk_W → Nat → Nat → Prop}  (hc1 : qk_c2 [o0, some (.ref a1), o2, o3, o4] 4 = true) (k : Ev d m_St_firstThatWaits 38 [o0, some (.ref a1), o2, o3, some (.int y0)] st w nc ns Q) : Ev d m_St_firstThatWaits 32 [o0, some (.ref a1), o2, o3, o4] (.int y0 :: st) w nc ns Q := by
  refine ev_istore d_St_firstThatWaits_32 (by decide) hc1 ?_
  refine ev_aload_n d_St_firstThatWaits_34 rfl rfl ?_
  refine ev_ifnull_r d_St_firstThatWaits_35 ?_
  exact k
theorem t_St_firstThatWaits_32n {d : Nat} {st : List Value} {o0 : Option Value}  {o2 : Option Value} {o3 : Option Value} {o4 : Option Value} {y0 : Int32} {w : qk_W} {nc ns : Nat} {Q : Option Value ⊕ Nat → qk_W → Nat → Nat → Prop}  (hc1 : qk_c2 [o0, some (.null), o2, o3, o4] 4 = true) (k : Ev d m_St_firstThatWaits 44 [o0, some (.null), o2, o3, some (.int y0)] st w nc ns Q) : Ev d m_St_firstThatWaits 32 [o0, some (.null), o2, o3, o4] (.int y0 :: st) w nc ns Q := by
  refine ev_istore d_St_firstThatWaits_32 (by decide) hc1 ?_
  refine ev_aload_n d_St_firstThatWaits_34 rfl rfl ?_
  refine ev_ifnull_n 44 d_St_firstThatWaits_35 (by decide) ?_
  exact k
theorem t_St_firstThatWaits_38 {d : Nat} {st : List Value} {o0 : Option Value} {o1 : Option Value} {x2 : Int32} {o3 : Option Value} {x4 : Int32} {w : qk_W} {nc ns : Nat} {Q : Option Value ⊕ Nat → qk_W → Nat → Nat → Prop}   (kt : x2 ≤ x4 → Ev d m_St_firstThatWaits 54 [o0, o1, some (.int x2), o3, some (.int x4)] st w nc ns Q) (kf : ¬ (x2 ≤ x4) → Ev d m_St_firstThatWaits 44 [o0, o1, some (.int x2), o3, some (.int x4)] st w nc ns Q) : Ev d m_St_firstThatWaits 38 [o0, o1, some (.int x2), o3, some (.int x4)] st w nc ns Q := by
  refine ev_iload d_St_firstThatWaits_38 rfl ?_
  refine ev_iload_n d_St_firstThatWaits_40 rfl ?_
  exact ev_icmp_ge 54 d_St_firstThatWaits_41 (by decide) kt kf
theorem t_St_firstThatWaits_44 {d : Nat} {st : List Value} {a0 : Nat} {o1 : Option Value} {o2 : Option Value} {x3 : Int32} {x4 : Int32} {fs2 : List Value} {c4 : Nat} {n6 : Nat} {f7 : Nat → Option Nat} {c10 : Nat} {w : qk_W} {nc ns : Nat} {Q : Option Value ⊕ Nat → qk_W → Nat → Nat → Prop}  (hw1 : wo w a0 1 fs2) (hf3 : fs2[0]? = some (.ref c4)) (ha5 : wr "QuakeLink$Channel" w c4 n6 f7) (hi8 : vp_in x3 n6) (hr9 : f7 x3.toNatClampNeg = some c10) (k : Ev d m_St_firstThatWaits 6 [some (.ref a0), some (.ref c10), some (.int x4), some (.int (x3 + 1)), some (.int x4)] st w nc ns Q) : Ev d m_St_firstThatWaits 44 [some (.ref a0), o1, o2, some (.int x3), some (.int x4)] st w nc ns Q := by
  refine ev_aload_n d_St_firstThatWaits_44 rfl rfl ?_
  refine ev_getf d_St_firstThatWaits_45 fl_St_11 hw1.1 hw1.2 hf3 ?_
  refine ev_iload_n d_St_firstThatWaits_48 rfl ?_
  refine ev_aald d_St_firstThatWaits_49 ha5.1 (by decide) ha5.2 hi8 ?_
  rw [hr9]
  show Ev _ _ _ _ (Value.ref c10 :: _) _ _ _ _
  refine ev_astore_n d_St_firstThatWaits_50 rfl (by decide) rfl ?_
  refine ev_iload d_St_firstThatWaits_51 rfl ?_
  refine ev_istore_n d_St_firstThatWaits_53 (by decide) rfl ?_
  refine ev_iinc 1 d_St_firstThatWaits_54 (by decide) rfl (by decide) rfl ?_
  refine ev_goto 6 d_St_firstThatWaits_57 (by decide) ?_
  exact k
theorem t_St_firstThatWaits_54 {d : Nat} {st : List Value} {o0 : Option Value} {o1 : Option Value} {o2 : Option Value} {x3 : Int32} {o4 : Option Value} {w : qk_W} {nc ns : Nat} {Q : Option Value ⊕ Nat → qk_W → Nat → Nat → Prop}  (hc1 : qk_c2 [o0, o1, o2, some (.int x3), o4] 3 = true) (k : Ev d m_St_firstThatWaits 6 [o0, o1, o2, some (.int (x3 + 1)), o4] st w nc ns Q) : Ev d m_St_firstThatWaits 54 [o0, o1, o2, some (.int x3), o4] st w nc ns Q := by
  refine ev_iinc 1 d_St_firstThatWaits_54 (by decide) rfl (by decide) hc1 ?_
  refine ev_goto 6 d_St_firstThatWaits_57 (by decide) ?_
  exact k
theorem t_St_firstThatWaits_60 {d : Nat} {o0 : Option Value} {v1 : Value} {o2 : Option Value} {o3 : Option Value} {o4 : Option Value} {w : qk_W} {nc ns : Nat} {Q : Option Value ⊕ Nat → qk_W → Nat → Nat → Prop} (hv1 : qk_isr v1 = true)  (hq : Q (.inl (some (v1))) w nc ns) : Ev d m_St_firstThatWaits 60 [o0, some v1, o2, o3, o4] [] w nc ns Q := by
  refine ev_aload_n d_St_firstThatWaits_60 rfl hv1 ?_
  exact ev_aret d_St_firstThatWaits_61 rfl hv1 hq
/-! St_leastAsked -/
theorem lc_St_97 : Cond.constant "QuakeLink$Station" 97 (32768) ∈ lw_tbl := (lw_i2 _ (List.mem_of_getElem? (i := 46) rfl))
theorem fl_St_98 : qk_fl "QuakeLink$Station" 98 2 0 := ⟨_, rfl, by decide, rfl, (lw_i1 _ (List.mem_of_getElem? (i := 61) rfl))⟩
theorem cw_St_102 : qk_cw "QuakeLink$Station" m_Ns_next.1 (.invokevirtual 102) := ⟨(lw_i2 _ (List.mem_of_getElem? (i := 47) rfl)), (lw_i2 _ (List.mem_of_getElem? (i := 48) rfl)), (lw_i2 _ (List.mem_of_getElem? (i := 49) rfl))⟩
theorem d_St_leastAsked_0 : decode m_St_leastAsked.2.1 0 = .ok (.aconst_null, 1) := by decide +kernel
theorem d_St_leastAsked_1 : decode m_St_leastAsked.2.1 1 = .ok (.astore_n 1, 1) := by decide +kernel
theorem d_St_leastAsked_2 : decode m_St_leastAsked.2.1 2 = .ok (.ldc 97, 2) := by decide +kernel
theorem d_St_leastAsked_4 : decode m_St_leastAsked.2.1 4 = .ok (.istore_n 2, 1) := by decide +kernel
theorem d_St_leastAsked_5 : decode m_St_leastAsked.2.1 5 = .ok (.iconst 0, 1) := by decide +kernel
theorem d_St_leastAsked_6 : decode m_St_leastAsked.2.1 6 = .ok (.istore_n 3, 1) := by decide +kernel
theorem d_St_leastAsked_7 : decode m_St_leastAsked.2.1 7 = .ok (.iload_n 3, 1) := by decide +kernel
theorem d_St_leastAsked_8 : decode m_St_leastAsked.2.1 8 = .ok (.iconst 4, 1) := by decide +kernel
theorem d_St_leastAsked_9 : decode m_St_leastAsked.2.1 9 = .ok (.if_icmp .ge 41, 3) := by decide +kernel
theorem d_St_leastAsked_12 : decode m_St_leastAsked.2.1 12 = .ok (.aload_n 0, 1) := by decide +kernel
theorem d_St_leastAsked_13 : decode m_St_leastAsked.2.1 13 = .ok (.getfield 11, 3) := by decide +kernel
theorem d_St_leastAsked_16 : decode m_St_leastAsked.2.1 16 = .ok (.iload_n 3, 1) := by decide +kernel
theorem d_St_leastAsked_17 : decode m_St_leastAsked.2.1 17 = .ok (.aaload, 1) := by decide +kernel
theorem d_St_leastAsked_18 : decode m_St_leastAsked.2.1 18 = .ok (.getfield 98, 3) := by decide +kernel
theorem d_St_leastAsked_21 : decode m_St_leastAsked.2.1 21 = .ok (.iconst 0, 1) := by decide +kernel
theorem d_St_leastAsked_22 : decode m_St_leastAsked.2.1 22 = .ok (.iconst 1, 1) := by decide +kernel
theorem d_St_leastAsked_23 : decode m_St_leastAsked.2.1 23 = .ok (.invokevirtual 102, 3) := by decide +kernel
theorem d_St_leastAsked_26 : decode m_St_leastAsked.2.1 26 = .ok (.istore 4, 2) := by decide +kernel
theorem d_St_leastAsked_28 : decode m_St_leastAsked.2.1 28 = .ok (.iload 4, 2) := by decide +kernel
theorem d_St_leastAsked_30 : decode m_St_leastAsked.2.1 30 = .ok (.iload_n 2, 1) := by decide +kernel
theorem d_St_leastAsked_31 : decode m_St_leastAsked.2.1 31 = .ok (.if_icmp .ge 13, 3) := by decide +kernel
theorem d_St_leastAsked_34 : decode m_St_leastAsked.2.1 34 = .ok (.aload_n 0, 1) := by decide +kernel
theorem d_St_leastAsked_35 : decode m_St_leastAsked.2.1 35 = .ok (.getfield 11, 3) := by decide +kernel
theorem d_St_leastAsked_38 : decode m_St_leastAsked.2.1 38 = .ok (.iload_n 3, 1) := by decide +kernel
theorem d_St_leastAsked_39 : decode m_St_leastAsked.2.1 39 = .ok (.aaload, 1) := by decide +kernel
theorem d_St_leastAsked_40 : decode m_St_leastAsked.2.1 40 = .ok (.astore_n 1, 1) := by decide +kernel
theorem d_St_leastAsked_41 : decode m_St_leastAsked.2.1 41 = .ok (.iload 4, 2) := by decide +kernel
theorem d_St_leastAsked_43 : decode m_St_leastAsked.2.1 43 = .ok (.istore_n 2, 1) := by decide +kernel
theorem d_St_leastAsked_44 : decode m_St_leastAsked.2.1 44 = .ok (.iinc 3 1, 3) := by decide +kernel
theorem d_St_leastAsked_47 : decode m_St_leastAsked.2.1 47 = .ok (.goto (-40), 3) := by decide +kernel
theorem d_St_leastAsked_50 : decode m_St_leastAsked.2.1 50 = .ok (.aload_n 1, 1) := by decide +kernel
theorem d_St_leastAsked_51 : decode m_St_leastAsked.2.1 51 = .ok (.areturn, 1) := by decide +kernel
theorem t_St_leastAsked_0 {d : Nat} {st : List Value} {o0 : Option Value} {o1 : Option Value} {o2 : Option Value} {o3 : Option Value} {o4 : Option Value} {w : qk_W} {nc ns : Nat} {Q : Option Value ⊕ Nat → qk_W → Nat → Nat → Prop}  (hc1 : qk_c2 [o0, o1, o2, o3, o4] 1 = true) (k : Ev d m_St_leastAsked 7 [o0, some (.null), some (.int 32768), some (.int 0), o4] st w nc ns Q) : Ev d m_St_leastAsked 0 [o0, o1, o2, o3, o4] st w nc ns Q := by
  refine ev_null d_St_leastAsked_0 ?_
  refine ev_astore_n d_St_leastAsked_1 rfl (by decide) hc1 ?_
  refine ev_ldc 32768 d_St_leastAsked_2 lc_St_97 ?_
  refine ev_istore_n d_St_leastAsked_4 (by decide) rfl ?_
  refine ev_iconst 0 d_St_leastAsked_5 (by decide) ?_
  refine ev_istore_n d_St_leastAsked_6 (by decide) rfl ?_
  exact k
theorem t_St_leastAsked_7 {d : Nat} {st : List Value} {o0 : Option Value} {o1 : Option Value} {o2 : Option Value} {x3 : Int32} {o4 : Option Value} {w : qk_W} {nc ns : Nat} {Q : Option Value ⊕ Nat → qk_W → Nat → Nat → Prop}   (kt : (4 : Int32) ≤ x3 → Ev d m_St_leastAsked 50 [o0, o1, o2, some (.int x3), o4] st w nc ns Q) (kf : ¬ ((4 : Int32) ≤ x3) → Ev d m_St_leastAsked 12 [o0, o1, o2, some (.int x3), o4] st w nc ns Q) : Ev d m_St_leastAsked 7 [o0, o1, o2, some (.int x3), o4] st w nc ns Q := by
  refine ev_iload_n d_St_leastAsked_7 rfl ?_
  refine ev_iconst 4 d_St_leastAsked_8 (by decide) ?_
  exact ev_icmp_ge 50 d_St_leastAsked_9 (by decide) kt kf
theorem t_St_leastAsked_12 {d : Nat} {st : List Value} {a0 : Nat} {o1 : Option Value} {o2 : Option Value} {x3 : Int32} {o4 : Option Value} {fs2 : List Value} {c4 : Nat} {n6 : Nat} {f7 : Nat → Option Nat} {c10 : Nat} {fs12 : List Value} {c14 : Nat} {fsb : List Value} {w : qk_W} {nc ns : Nat} {Q : Option Value ⊕ Nat → qk_W → Nat → Nat → Prop}  (hw1 : wo w a0 1 fs2) (hf3 : fs2[0]? = some (.ref c4)) (ha5 : wr "QuakeLink$Channel" w c4 n6 f7) (hi8 : vp_in x3 n6) (hr9 : f7 x3.toNatClampNeg = some c10) (hw11 : wo w c10 2 fs12) (hf13 : fs12[0]? = some (.ref c14)) (hb : wo w c14 3 fsb) (h8 : (st.map fun v => Value.category v).sum ≤ 8) (k : Ev d m_Ns_next 0 [some (.ref c14), some (.int 0), some (.int 1), none, none, none, none] [] w nc ns (fun r w1 nc1 ns1 => match r with | .inl v => Ev (d + 1) m_St_leastAsked 26 [some (.ref a0), o1, o2, some (.int x3), o4] (v.toList ++ st) w1 nc1 ns1 Q | .inr x => Q (.inr x) w1 nc1 ns1)) : Ev (d + 1) m_St_leastAsked 12 [some (.ref a0), o1, o2, some (.int x3), o4] st w nc ns Q := by
  refine ev_aload_n d_St_leastAsked_12 rfl rfl ?_
  refine ev_getf d_St_leastAsked_13 fl_St_11 hw1.1 hw1.2 hf3 ?_
  refine ev_iload_n d_St_leastAsked_16 rfl ?_
  refine ev_aald d_St_leastAsked_17 ha5.1 (by decide) ha5.2 hi8 ?_
  rw [hr9]
  show Ev _ _ _ _ (Value.ref c10 :: _) _ _ _ _
  refine ev_getf d_St_leastAsked_18 fl_St_98 hw11.1 hw11.2 hf13 ?_
  refine ev_iconst 0 d_St_leastAsked_21 (by decide) ?_
  refine ev_iconst 1 d_St_leastAsked_22 (by decide) ?_
  exact ev_call (M' := m_Ns_next) (As := [.ref c14, .int 0, .int 1]) (st := st) d_St_leastAsked_23 i_Ns_next (fun h => absurd h (by decide +kernel)) cw_St_102 rfl rfl ⟨hb.1, 3, _, _, hb.2, rfl, rfl⟩ rfl (Nat.le_of_ble_eq_true rfl) h8 k
theorem t_St_leastAsked_26 {d : Nat} {st : List Value} {o0 : Option Value} {o1 : Option Value} {x2 : Int32} {o3 : Option Value} {o4 : Option Value} {y0 : Int32} {w : qk_W} {nc ns : Nat} {Q : Option Value ⊕ Nat → qk_W → Nat → Nat → Prop}  (hc1 : qk_c2 [o0, o1, some (.int x2), o3, o4] 4 = true) (kt : x2 ≤ y0 → Ev d m_St_leastAsked 44 [o0, o1, some (.int x2), o3, some (.int y0)] st w nc ns Q) (kf : ¬ (x2 ≤ y0) → Ev d m_St_leastAsked 34 [o0, o1, some (.int x2), o3, some (.int y0)] st w nc ns Q) : Ev d m_St_leastAsked 26 [o0, o1, some (.int x2), o3, o4] (.int y0 :: st) w nc ns Q := by
  refine ev_istore d_St_leastAsked_26 (by decide) hc1 ?_
  refine ev_iload d_St_leastAsked_28 rfl ?_
  refine ev_iload_n d_St_leastAsked_30 rfl ?_
  exact ev_icmp_ge 44 d_St_leastAsked_31 (by decide) kt kf
theorem t_St_leastAsked_34 {d : Nat} {st : List Value} {a0 : Nat} {o1 : Option Value} {o2 : Option Value} {x3 : Int32} {x4 : Int32} {fs2 : List Value} {c4 : Nat} {n6 : Nat} {f7 : Nat → Option Nat} {c10 : Nat} {w : qk_W} {nc ns : Nat} {Q : Option Value ⊕ Nat → qk_W → Nat → Nat → Prop}  (hw1 : wo w a0 1 fs2) (hf3 : fs2[0]? = some (.ref c4)) (ha5 : wr "QuakeLink$Channel" w c4 n6 f7) (hi8 : vp_in x3 n6) (hr9 : f7 x3.toNatClampNeg = some c10) (k : Ev d m_St_leastAsked 7 [some (.ref a0), some (.ref c10), some (.int x4), some (.int (x3 + 1)), some (.int x4)] st w nc ns Q) : Ev d m_St_leastAsked 34 [some (.ref a0), o1, o2, some (.int x3), some (.int x4)] st w nc ns Q := by
  refine ev_aload_n d_St_leastAsked_34 rfl rfl ?_
  refine ev_getf d_St_leastAsked_35 fl_St_11 hw1.1 hw1.2 hf3 ?_
  refine ev_iload_n d_St_leastAsked_38 rfl ?_
  refine ev_aald d_St_leastAsked_39 ha5.1 (by decide) ha5.2 hi8 ?_
  rw [hr9]
  show Ev _ _ _ _ (Value.ref c10 :: _) _ _ _ _
  refine ev_astore_n d_St_leastAsked_40 rfl (by decide) rfl ?_
  refine ev_iload d_St_leastAsked_41 rfl ?_
  refine ev_istore_n d_St_leastAsked_43 (by decide) rfl ?_
  refine ev_iinc 1 d_St_leastAsked_44 (by decide) rfl (by decide) rfl ?_
  refine ev_goto 7 d_St_leastAsked_47 (by decide) ?_
  exact k
theorem t_St_leastAsked_44 {d : Nat} {st : List Value} {o0 : Option Value} {o1 : Option Value} {o2 : Option Value} {x3 : Int32} {o4 : Option Value} {w : qk_W} {nc ns : Nat} {Q : Option Value ⊕ Nat → qk_W → Nat → Nat → Prop}  (hc1 : qk_c2 [o0, o1, o2, some (.int x3), o4] 3 = true) (k : Ev d m_St_leastAsked 7 [o0, o1, o2, some (.int (x3 + 1)), o4] st w nc ns Q) : Ev d m_St_leastAsked 44 [o0, o1, o2, some (.int x3), o4] st w nc ns Q := by
  refine ev_iinc 1 d_St_leastAsked_44 (by decide) rfl (by decide) hc1 ?_
  refine ev_goto 7 d_St_leastAsked_47 (by decide) ?_
  exact k
theorem t_St_leastAsked_50 {d : Nat} {o0 : Option Value} {v1 : Value} {o2 : Option Value} {o3 : Option Value} {o4 : Option Value} {w : qk_W} {nc ns : Nat} {Q : Option Value ⊕ Nat → qk_W → Nat → Nat → Prop} (hv1 : qk_isr v1 = true)  (hq : Q (.inl (some (v1))) w nc ns) : Ev d m_St_leastAsked 50 [o0, some v1, o2, o3, o4] [] w nc ns Q := by
  refine ev_aload_n d_St_leastAsked_50 rfl hv1 ?_
  exact ev_aret d_St_leastAsked_51 rfl hv1 hq
/-! Ce_sendRequest -/
theorem lc_Ce_18 : Cond.constant "QuakeLink$Centre" 18 (32768) ∈ lw_tbl := (lw_i2 _ (List.mem_of_getElem? (i := 132) rfl))
theorem fl_Ce_19 : qk_fl "QuakeLink$Centre" 19 6 1 := ⟨_, rfl, by decide, rfl, (lw_i1 _ (List.mem_of_getElem? (i := 139) rfl))⟩
theorem cw_Ce_23 : qk_cw "QuakeLink$Centre" m_Tr_startOfGapFrom.1 (.invokevirtual 23) := ⟨(lw_i2 _ (List.mem_of_getElem? (i := 133) rfl)), (lw_i2 _ (List.mem_of_getElem? (i := 134) rfl)), (lw_i2 _ (List.mem_of_getElem? (i := 135) rfl))⟩
theorem cw_Ce_27 : qk_cw "QuakeLink$Centre" m_Ai_add.1 (.invokevirtual 27) := ⟨(lw_i2 _ (List.mem_of_getElem? (i := 140) rfl)), (lw_i2 _ (List.mem_of_getElem? (i := 68) rfl)), (lw_i2 _ (List.mem_of_getElem? (i := 69) rfl))⟩
theorem cw_Ce_33 : qk_cw "QuakeLink$Centre" m_Me_put.1 (.invokevirtual 33) := ⟨(lw_i2 _ (List.mem_of_getElem? (i := 141) rfl)), (lw_i2 _ (List.mem_of_getElem? (i := 85) rfl)), (lw_i2 _ (List.mem_of_getElem? (i := 86) rfl))⟩
theorem cw_Ce_39 : qk_cw "QuakeLink$Centre" m_Tr_endOfGap.1 (.invokevirtual 39) := ⟨(lw_i2 _ (List.mem_of_getElem? (i := 142) rfl)), (lw_i2 _ (List.mem_of_getElem? (i := 143) rfl)), (lw_i2 _ (List.mem_of_getElem? (i := 144) rfl))⟩
theorem cw_Ce_42 : qk_cw "QuakeLink$Centre" m_Me_seal.1 (.invokevirtual 42) := ⟨(lw_i2 _ (List.mem_of_getElem? (i := 146) rfl)), (lw_i2 _ (List.mem_of_getElem? (i := 89) rfl)), (lw_i2 _ (List.mem_of_getElem? (i := 90) rfl))⟩
theorem d_Ce_sendRequest_0 : decode m_Ce_sendRequest.2.1 0 = .ok (.iconst (-1), 1) := by decide +kernel
theorem d_Ce_sendRequest_1 : decode m_Ce_sendRequest.2.1 1 = .ok (.istore_n 2, 1) := by decide +kernel
theorem d_Ce_sendRequest_2 : decode m_Ce_sendRequest.2.1 2 = .ok (.ldc 18, 2) := by decide +kernel
theorem d_Ce_sendRequest_4 : decode m_Ce_sendRequest.2.1 4 = .ok (.istore_n 3, 1) := by decide +kernel
theorem d_Ce_sendRequest_5 : decode m_Ce_sendRequest.2.1 5 = .ok (.iconst 0, 1) := by decide +kernel
theorem d_Ce_sendRequest_6 : decode m_Ce_sendRequest.2.1 6 = .ok (.istore 4, 2) := by decide +kernel
theorem d_Ce_sendRequest_8 : decode m_Ce_sendRequest.2.1 8 = .ok (.iload 4, 2) := by decide +kernel
theorem d_Ce_sendRequest_10 : decode m_Ce_sendRequest.2.1 10 = .ok (.iconst 4, 1) := by decide +kernel
theorem d_Ce_sendRequest_11 : decode m_Ce_sendRequest.2.1 11 = .ok (.if_icmp .ge 43, 3) := by decide +kernel
theorem d_Ce_sendRequest_14 : decode m_Ce_sendRequest.2.1 14 = .ok (.aload_n 0, 1) := by decide +kernel
theorem d_Ce_sendRequest_15 : decode m_Ce_sendRequest.2.1 15 = .ok (.getfield 11, 3) := by decide +kernel
theorem d_Ce_sendRequest_18 : decode m_Ce_sendRequest.2.1 18 = .ok (.iload 4, 2) := by decide +kernel
theorem d_Ce_sendRequest_20 : decode m_Ce_sendRequest.2.1 20 = .ok (.aaload, 1) := by decide +kernel
theorem d_Ce_sendRequest_21 : decode m_Ce_sendRequest.2.1 21 = .ok (.aload_n 0, 1) := by decide +kernel
theorem d_Ce_sendRequest_22 : decode m_Ce_sendRequest.2.1 22 = .ok (.getfield 11, 3) := by decide +kernel
theorem d_Ce_sendRequest_25 : decode m_Ce_sendRequest.2.1 25 = .ok (.iload 4, 2) := by decide +kernel
theorem d_Ce_sendRequest_27 : decode m_Ce_sendRequest.2.1 27 = .ok (.aaload, 1) := by decide +kernel
theorem d_Ce_sendRequest_28 : decode m_Ce_sendRequest.2.1 28 = .ok (.getfield 19, 3) := by decide +kernel
theorem d_Ce_sendRequest_31 : decode m_Ce_sendRequest.2.1 31 = .ok (.invokevirtual 23, 3) := by decide +kernel
theorem d_Ce_sendRequest_34 : decode m_Ce_sendRequest.2.1 34 = .ok (.istore 5, 2) := by decide +kernel
theorem d_Ce_sendRequest_36 : decode m_Ce_sendRequest.2.1 36 = .ok (.iload 5, 2) := by decide +kernel
theorem d_Ce_sendRequest_38 : decode m_Ce_sendRequest.2.1 38 = .ok (.iload_n 3, 1) := by decide +kernel
theorem d_Ce_sendRequest_39 : decode m_Ce_sendRequest.2.1 39 = .ok (.if_icmp .ge 9, 3) := by decide +kernel
theorem d_Ce_sendRequest_42 : decode m_Ce_sendRequest.2.1 42 = .ok (.iload 4, 2) := by decide +kernel
theorem d_Ce_sendRequest_44 : decode m_Ce_sendRequest.2.1 44 = .ok (.istore_n 2, 1) := by decide +kernel
theorem d_Ce_sendRequest_45 : decode m_Ce_sendRequest.2.1 45 = .ok (.iload 5, 2) := by decide +kernel
theorem d_Ce_sendRequest_47 : decode m_Ce_sendRequest.2.1 47 = .ok (.istore_n 3, 1) := by decide +kernel
theorem d_Ce_sendRequest_48 : decode m_Ce_sendRequest.2.1 48 = .ok (.iinc 4 1, 3) := by decide +kernel
theorem d_Ce_sendRequest_51 : decode m_Ce_sendRequest.2.1 51 = .ok (.goto (-43), 3) := by decide +kernel
theorem d_Ce_sendRequest_54 : decode m_Ce_sendRequest.2.1 54 = .ok (.iload_n 2, 1) := by decide +kernel
theorem d_Ce_sendRequest_55 : decode m_Ce_sendRequest.2.1 55 = .ok (.iconst (-1), 1) := by decide +kernel
theorem d_Ce_sendRequest_56 : decode m_Ce_sendRequest.2.1 56 = .ok (.if_icmp .ne 5, 3) := by decide +kernel
theorem d_Ce_sendRequest_59 : decode m_Ce_sendRequest.2.1 59 = .ok (.iconst 0, 1) := by decide +kernel
theorem d_Ce_sendRequest_60 : decode m_Ce_sendRequest.2.1 60 = .ok (.ireturn, 1) := by decide +kernel
theorem d_Ce_sendRequest_61 : decode m_Ce_sendRequest.2.1 61 = .ok (.aload_n 1, 1) := by decide +kernel
theorem d_Ce_sendRequest_62 : decode m_Ce_sendRequest.2.1 62 = .ok (.bipush 16, 2) := by decide +kernel
theorem d_Ce_sendRequest_64 : decode m_Ce_sendRequest.2.1 64 = .ok (.invokevirtual 27, 3) := by decide +kernel
theorem d_Ce_sendRequest_67 : decode m_Ce_sendRequest.2.1 67 = .ok (.astore 4, 2) := by decide +kernel
theorem d_Ce_sendRequest_69 : decode m_Ce_sendRequest.2.1 69 = .ok (.aload 4, 2) := by decide +kernel
theorem d_Ce_sendRequest_71 : decode m_Ce_sendRequest.2.1 71 = .ok (.iconst 0, 1) := by decide +kernel
theorem d_Ce_sendRequest_72 : decode m_Ce_sendRequest.2.1 72 = .ok (.iconst 1, 1) := by decide +kernel
theorem d_Ce_sendRequest_73 : decode m_Ce_sendRequest.2.1 73 = .ok (.iload_n 2, 1) := by decide +kernel
theorem d_Ce_sendRequest_74 : decode m_Ce_sendRequest.2.1 74 = .ok (.invokevirtual 33, 3) := by decide +kernel
theorem d_Ce_sendRequest_77 : decode m_Ce_sendRequest.2.1 77 = .ok (.aload 4, 2) := by decide +kernel
theorem d_Ce_sendRequest_79 : decode m_Ce_sendRequest.2.1 79 = .ok (.iconst 1, 1) := by decide +kernel
theorem d_Ce_sendRequest_80 : decode m_Ce_sendRequest.2.1 80 = .ok (.iconst 3, 1) := by decide +kernel
theorem d_Ce_sendRequest_81 : decode m_Ce_sendRequest.2.1 81 = .ok (.iconst 0, 1) := by decide +kernel
theorem d_Ce_sendRequest_82 : decode m_Ce_sendRequest.2.1 82 = .ok (.invokevirtual 33, 3) := by decide +kernel
theorem d_Ce_sendRequest_85 : decode m_Ce_sendRequest.2.1 85 = .ok (.aload 4, 2) := by decide +kernel
theorem d_Ce_sendRequest_87 : decode m_Ce_sendRequest.2.1 87 = .ok (.iconst 4, 1) := by decide +kernel
theorem d_Ce_sendRequest_88 : decode m_Ce_sendRequest.2.1 88 = .ok (.iconst 4, 1) := by decide +kernel
theorem d_Ce_sendRequest_89 : decode m_Ce_sendRequest.2.1 89 = .ok (.iload_n 3, 1) := by decide +kernel
theorem d_Ce_sendRequest_90 : decode m_Ce_sendRequest.2.1 90 = .ok (.invokevirtual 33, 3) := by decide +kernel
theorem d_Ce_sendRequest_93 : decode m_Ce_sendRequest.2.1 93 = .ok (.aload 4, 2) := by decide +kernel
theorem d_Ce_sendRequest_95 : decode m_Ce_sendRequest.2.1 95 = .ok (.bipush 8, 2) := by decide +kernel
theorem d_Ce_sendRequest_97 : decode m_Ce_sendRequest.2.1 97 = .ok (.iconst 4, 1) := by decide +kernel
theorem d_Ce_sendRequest_98 : decode m_Ce_sendRequest.2.1 98 = .ok (.aload_n 0, 1) := by decide +kernel
theorem d_Ce_sendRequest_99 : decode m_Ce_sendRequest.2.1 99 = .ok (.getfield 11, 3) := by decide +kernel
theorem d_Ce_sendRequest_102 : decode m_Ce_sendRequest.2.1 102 = .ok (.iload_n 2, 1) := by decide +kernel
theorem d_Ce_sendRequest_103 : decode m_Ce_sendRequest.2.1 103 = .ok (.aaload, 1) := by decide +kernel
theorem d_Ce_sendRequest_104 : decode m_Ce_sendRequest.2.1 104 = .ok (.iload_n 3, 1) := by decide +kernel
theorem d_Ce_sendRequest_105 : decode m_Ce_sendRequest.2.1 105 = .ok (.invokevirtual 39, 3) := by decide +kernel
theorem d_Ce_sendRequest_108 : decode m_Ce_sendRequest.2.1 108 = .ok (.invokevirtual 33, 3) := by decide +kernel
theorem d_Ce_sendRequest_111 : decode m_Ce_sendRequest.2.1 111 = .ok (.aload 4, 2) := by decide +kernel
theorem d_Ce_sendRequest_113 : decode m_Ce_sendRequest.2.1 113 = .ok (.invokevirtual 42, 3) := by decide +kernel
theorem d_Ce_sendRequest_116 : decode m_Ce_sendRequest.2.1 116 = .ok (.iconst 1, 1) := by decide +kernel
theorem d_Ce_sendRequest_117 : decode m_Ce_sendRequest.2.1 117 = .ok (.ireturn, 1) := by decide +kernel
theorem t_Ce_sendRequest_0 {d : Nat} {st : List Value} {o0 : Option Value} {o1 : Option Value} {o2 : Option Value} {o3 : Option Value} {o4 : Option Value} {o5 : Option Value} {w : qk_W} {nc ns : Nat} {Q : Option Value ⊕ Nat → qk_W → Nat → Nat → Prop}  (hc1 : qk_c2 [o0, o1, o2, o3, o4, o5] 2 = true) (k : Ev d m_Ce_sendRequest 8 [o0, o1, some (.int (-1)), some (.int 32768), some (.int 0), o5] st w nc ns Q) : Ev d m_Ce_sendRequest 0 [o0, o1, o2, o3, o4, o5] st w nc ns Q := by
  refine ev_iconst (-1) d_Ce_sendRequest_0 (by decide) ?_
  refine ev_istore_n d_Ce_sendRequest_1 (by decide) hc1 ?_
  refine ev_ldc 32768 d_Ce_sendRequest_2 lc_Ce_18 ?_
  refine ev_istore_n d_Ce_sendRequest_4 (by decide) rfl ?_
  refine ev_iconst 0 d_Ce_sendRequest_5 (by decide) ?_
  refine ev_istore d_Ce_sendRequest_6 (by decide) rfl ?_
  exact k
theorem t_Ce_sendRequest_8 {d : Nat} {st : List Value} {o0 : Option Value} {o1 : Option Value} {o2 : Option Value} {o3 : Option Value} {x4 : Int32} {o5 : Option Value} {w : qk_W} {nc ns : Nat} {Q : Option Value ⊕ Nat → qk_W → Nat → Nat → Prop}   (kt : (4 : Int32) ≤ x4 → Ev d m_Ce_sendRequest 54 [o0, o1, o2, o3, some (.int x4), o5] st w nc ns Q) (kf : ¬ ((4 : Int32) ≤ x4) → Ev d m_Ce_sendRequest 14 [o0, o1, o2, o3, some (.int x4), o5] st w nc ns Q) : Ev d m_Ce_sendRequest 8 [o0, o1, o2, o3, some (.int x4), o5] st w nc ns Q := by
  refine ev_iload d_Ce_sendRequest_8 rfl ?_
  refine ev_iconst 4 d_Ce_sendRequest_10 (by decide) ?_
  exact ev_icmp_ge 54 d_Ce_sendRequest_11 (by decide) kt kf
theorem t_Ce_sendRequest_14 {d : Nat} {st : List Value} {a0 : Nat} {o1 : Option Value} {o2 : Option Value} {o3 : Option Value} {x4 : Int32} {o5 : Option Value} {fs2 : List Value} {c4 : Nat} {n6 : Nat} {f7 : Nat → Option Nat} {c10 : Nat} {c15 : Nat} {fs17 : List Value} {n19 : Int32} {fsb : List Value} {w : qk_W} {nc ns : Nat} {Q : Option Value ⊕ Nat → qk_W → Nat → Nat → Prop}  (hw1 : wo w a0 5 fs2) (hf3 : fs2[0]? = some (.ref c4)) (ha5 : wr "QuakeLink$Track" w c4 n6 f7) (hi8 : vp_in x4 n6) (hr9 : f7 x4.toNatClampNeg = some c10) (hr14 : f7 x4.toNatClampNeg = some c15) (hw16 : wo w c15 6 fs17) (hf18 : fs17[1]? = some (.int n19)) (hb : wo w c10 6 fsb) (h8 : (st.map fun v => Value.category v).sum ≤ 8) (k : Ev d m_Tr_startOfGapFrom 0 [some (.ref c10), some (.int n19), none] [] w nc ns (fun r w1 nc1 ns1 => match r with | .inl v => Ev (d + 1) m_Ce_sendRequest 34 [some (.ref a0), o1, o2, o3, some (.int x4), o5] (v.toList ++ st) w1 nc1 ns1 Q | .inr x => Q (.inr x) w1 nc1 ns1)) : Ev (d + 1) m_Ce_sendRequest 14 [some (.ref a0), o1, o2, o3, some (.int x4), o5] st w nc ns Q := by
  refine ev_aload_n d_Ce_sendRequest_14 rfl rfl ?_
  refine ev_getf d_Ce_sendRequest_15 fl_Ce_11 hw1.1 hw1.2 hf3 ?_
  refine ev_iload d_Ce_sendRequest_18 rfl ?_
  refine ev_aald d_Ce_sendRequest_20 ha5.1 (by decide) ha5.2 hi8 ?_
  rw [hr9]
  show Ev _ _ _ _ (Value.ref c10 :: _) _ _ _ _
  refine ev_aload_n d_Ce_sendRequest_21 rfl rfl ?_
  refine ev_getf d_Ce_sendRequest_22 fl_Ce_11 hw1.1 hw1.2 hf3 ?_
  refine ev_iload d_Ce_sendRequest_25 rfl ?_
  refine ev_aald d_Ce_sendRequest_27 ha5.1 (by decide) ha5.2 hi8 ?_
  rw [hr14]
  show Ev _ _ _ _ (Value.ref c15 :: _) _ _ _ _
  refine ev_getf d_Ce_sendRequest_28 fl_Ce_19 hw16.1 hw16.2 hf18 ?_
  exact ev_call (M' := m_Tr_startOfGapFrom) (As := [.ref c10, .int n19]) (st := st) d_Ce_sendRequest_31 i_Tr_startOfGapFrom (fun h => absurd h (by decide +kernel)) cw_Ce_23 rfl rfl ⟨hb.1, 6, _, _, hb.2, rfl, rfl⟩ rfl (Nat.le_of_ble_eq_true rfl) h8 k
theorem t_Ce_sendRequest_34 {d : Nat} {st : List Value} {o0 : Option Value} {o1 : Option Value} {o2 : Option Value} {x3 : Int32} {o4 : Option Value} {o5 : Option Value} {y0 : Int32} {w : qk_W} {nc ns : Nat} {Q : Option Value ⊕ Nat → qk_W → Nat → Nat → Prop}  (hc1 : qk_c2 [o0, o1, o2, some (.int x3), o4, o5] 5 = true) (kt : x3 ≤ y0 → Ev d m_Ce_sendRequest 48 [o0, o1, o2, some (.int x3), o4, some (.int y0)] st w nc ns Q) (kf : ¬ (x3 ≤ y0) → Ev d m_Ce_sendRequest 42 [o0, o1, o2, some (.int x3), o4, some (.int y0)] st w nc ns Q) : Ev d m_Ce_sendRequest 34 [o0, o1, o2, some (.int x3), o4, o5] (.int y0 :: st) w nc ns Q := by
  refine ev_istore d_Ce_sendRequest_34 (by decide) hc1 ?_
  refine ev_iload d_Ce_sendRequest_36 rfl ?_
  refine ev_iload_n d_Ce_sendRequest_38 rfl ?_
  exact ev_icmp_ge 48 d_Ce_sendRequest_39 (by decide) kt kf
theorem t_Ce_sendRequest_42 {d : Nat} {st : List Value} {o0 : Option Value} {o1 : Option Value} {o2 : Option Value} {o3 : Option Value} {x4 : Int32} {x5 : Int32} {w : qk_W} {nc ns : Nat} {Q : Option Value ⊕ Nat → qk_W → Nat → Nat → Prop}  (hc1 : qk_c2 [o0, o1, o2, o3, some (.int x4), some (.int x5)] 2 = true) (k : Ev d m_Ce_sendRequest 8 [o0, o1, some (.int x4), some (.int x5), some (.int (x4 + 1)), some (.int x5)] st w nc ns Q) : Ev d m_Ce_sendRequest 42 [o0, o1, o2, o3, some (.int x4), some (.int x5)] st w nc ns Q := by
  refine ev_iload d_Ce_sendRequest_42 rfl ?_
  refine ev_istore_n d_Ce_sendRequest_44 (by decide) hc1 ?_
  refine ev_iload d_Ce_sendRequest_45 rfl ?_
  refine ev_istore_n d_Ce_sendRequest_47 (by decide) rfl ?_
  refine ev_iinc 1 d_Ce_sendRequest_48 (by decide) rfl (by decide) rfl ?_
  refine ev_goto 8 d_Ce_sendRequest_51 (by decide) ?_
  exact k
theorem t_Ce_sendRequest_48 {d : Nat} {st : List Value} {o0 : Option Value} {o1 : Option Value} {o2 : Option Value} {o3 : Option Value} {x4 : Int32} {o5 : Option Value} {w : qk_W} {nc ns : Nat} {Q : Option Value ⊕ Nat → qk_W → Nat → Nat → Prop}  (hc1 : qk_c2 [o0, o1, o2, o3, some (.int x4), o5] 4 = true) (k : Ev d m_Ce_sendRequest 8 [o0, o1, o2, o3, some (.int (x4 + 1)), o5] st w nc ns Q) : Ev d m_Ce_sendRequest 48 [o0, o1, o2, o3, some (.int x4), o5] st w nc ns Q := by
  refine ev_iinc 1 d_Ce_sendRequest_48 (by decide) rfl (by decide) hc1 ?_
  refine ev_goto 8 d_Ce_sendRequest_51 (by decide) ?_
  exact k
theorem t_Ce_sendRequest_54 {d : Nat} {st : List Value} {o0 : Option Value} {o1 : Option Value} {x2 : Int32} {o3 : Option Value} {o4 : Option Value} {o5 : Option Value} {w : qk_W} {nc ns : Nat} {Q : Option Value ⊕ Nat → qk_W → Nat → Nat → Prop}   (kt : ¬ x2 = ((-1) : Int32) → Ev d m_Ce_sendRequest 61 [o0, o1, some (.int x2), o3, o4, o5] st w nc ns Q) (kf : x2 = ((-1) : Int32) → Ev d m_Ce_sendRequest 59 [o0, o1, some (.int x2), o3, o4, o5] st w nc ns Q) : Ev d m_Ce_sendRequest 54 [o0, o1, some (.int x2), o3, o4, o5] st w nc ns Q := by
  refine ev_iload_n d_Ce_sendRequest_54 rfl ?_
  refine ev_iconst (-1) d_Ce_sendRequest_55 (by decide) ?_
  exact ev_icmp_ne 61 d_Ce_sendRequest_56 (by decide) kt kf
theorem t_Ce_sendRequest_59 {d : Nat} {o0 : Option Value} {o1 : Option Value} {o2 : Option Value} {o3 : Option Value} {o4 : Option Value} {o5 : Option Value} {w : qk_W} {nc ns : Nat} {Q : Option Value ⊕ Nat → qk_W → Nat → Nat → Prop}   (hq : Q (.inl (some (.int 0))) w nc ns) : Ev d m_Ce_sendRequest 59 [o0, o1, o2, o3, o4, o5] [] w nc ns Q := by
  refine ev_iconst 0 d_Ce_sendRequest_59 (by decide) ?_
  exact ev_iret d_Ce_sendRequest_60 rfl rfl hq
theorem t_Ce_sendRequest_61 {d : Nat} {st : List Value} {o0 : Option Value} {a1 : Nat} {o2 : Option Value} {o3 : Option Value} {o4 : Option Value} {o5 : Option Value} {fsb : List Value} {w : qk_W} {nc ns : Nat} {Q : Option Value ⊕ Nat → qk_W → Nat → Nat → Prop}  (hb : wo w a1 4 fsb) (h8 : (st.map fun v => Value.category v).sum ≤ 8) (k : Ev d m_Ai_add 0 [some (.ref a1), some (.int 16), none] [] w nc ns (fun r w1 nc1 ns1 => match r with | .inl v => Ev (d + 1) m_Ce_sendRequest 67 [o0, some (.ref a1), o2, o3, o4, o5] (v.toList ++ st) w1 nc1 ns1 Q | .inr x => Q (.inr x) w1 nc1 ns1)) : Ev (d + 1) m_Ce_sendRequest 61 [o0, some (.ref a1), o2, o3, o4, o5] st w nc ns Q := by
  refine ev_aload_n d_Ce_sendRequest_61 rfl rfl ?_
  refine ev_bipush 16 d_Ce_sendRequest_62 (by decide) ?_
  exact ev_call (M' := m_Ai_add) (As := [.ref a1, .int 16]) (st := st) d_Ce_sendRequest_64 i_Ai_add (fun h => absurd h (by decide +kernel)) cw_Ce_27 rfl rfl ⟨hb.1, 4, _, _, hb.2, rfl, rfl⟩ rfl (Nat.le_of_ble_eq_true rfl) h8 k
theorem t_Ce_sendRequest_67 {d : Nat} {st : List Value} {o0 : Option Value} {o1 : Option Value} {x2 : Int32} {o3 : Option Value} {o4 : Option Value} {o5 : Option Value} {b0 : Nat} {fsb : List Value} {w : qk_W} {nc ns : Nat} {Q : Option Value ⊕ Nat → qk_W → Nat → Nat → Prop}  (hc1 : qk_c2 [o0, o1, some (.int x2), o3, o4, o5] 4 = true) (hb : wo w b0 8 fsb) (h8 : (st.map fun v => Value.category v).sum ≤ 8) (k : Ev d m_Me_put 0 [some (.ref b0), some (.int 0), some (.int 1), some (.int x2), none] [] w nc ns (fun r w1 nc1 ns1 => match r with | .inl v => Ev (d + 1) m_Ce_sendRequest 77 [o0, o1, some (.int x2), o3, some (.ref b0), o5] (v.toList ++ st) w1 nc1 ns1 Q | .inr x => Q (.inr x) w1 nc1 ns1)) : Ev (d + 1) m_Ce_sendRequest 67 [o0, o1, some (.int x2), o3, o4, o5] (.ref b0 :: st) w nc ns Q := by
  refine ev_astore d_Ce_sendRequest_67 rfl (by decide) hc1 ?_
  refine ev_aload d_Ce_sendRequest_69 rfl rfl ?_
  refine ev_iconst 0 d_Ce_sendRequest_71 (by decide) ?_
  refine ev_iconst 1 d_Ce_sendRequest_72 (by decide) ?_
  refine ev_iload_n d_Ce_sendRequest_73 rfl ?_
  exact ev_call (M' := m_Me_put) (As := [.ref b0, .int 0, .int 1, .int x2]) (st := st) d_Ce_sendRequest_74 i_Me_put (fun h => absurd h (by decide +kernel)) cw_Ce_33 rfl rfl ⟨hb.1, 8, _, _, hb.2, rfl, rfl⟩ rfl (Nat.le_of_ble_eq_true rfl) h8 k
theorem t_Ce_sendRequest_77 {d : Nat} {st : List Value} {o0 : Option Value} {o1 : Option Value} {o2 : Option Value} {o3 : Option Value} {a4 : Nat} {o5 : Option Value} {fsb : List Value} {w : qk_W} {nc ns : Nat} {Q : Option Value ⊕ Nat → qk_W → Nat → Nat → Prop}  (hb : wo w a4 8 fsb) (h8 : (st.map fun v => Value.category v).sum ≤ 8) (k : Ev d m_Me_put 0 [some (.ref a4), some (.int 1), some (.int 3), some (.int 0), none] [] w nc ns (fun r w1 nc1 ns1 => match r with | .inl v => Ev (d + 1) m_Ce_sendRequest 85 [o0, o1, o2, o3, some (.ref a4), o5] (v.toList ++ st) w1 nc1 ns1 Q | .inr x => Q (.inr x) w1 nc1 ns1)) : Ev (d + 1) m_Ce_sendRequest 77 [o0, o1, o2, o3, some (.ref a4), o5] st w nc ns Q := by
  refine ev_aload d_Ce_sendRequest_77 rfl rfl ?_
  refine ev_iconst 1 d_Ce_sendRequest_79 (by decide) ?_
  refine ev_iconst 3 d_Ce_sendRequest_80 (by decide) ?_
  refine ev_iconst 0 d_Ce_sendRequest_81 (by decide) ?_
  exact ev_call (M' := m_Me_put) (As := [.ref a4, .int 1, .int 3, .int 0]) (st := st) d_Ce_sendRequest_82 i_Me_put (fun h => absurd h (by decide +kernel)) cw_Ce_33 rfl rfl ⟨hb.1, 8, _, _, hb.2, rfl, rfl⟩ rfl (Nat.le_of_ble_eq_true rfl) h8 k
theorem t_Ce_sendRequest_85 {d : Nat} {st : List Value} {o0 : Option Value} {o1 : Option Value} {o2 : Option Value} {x3 : Int32} {a4 : Nat} {o5 : Option Value} {fsb : List Value} {w : qk_W} {nc ns : Nat} {Q : Option Value ⊕ Nat → qk_W → Nat → Nat → Prop}  (hb : wo w a4 8 fsb) (h8 : (st.map fun v => Value.category v).sum ≤ 8) (k : Ev d m_Me_put 0 [some (.ref a4), some (.int 4), some (.int 4), some (.int x3), none] [] w nc ns (fun r w1 nc1 ns1 => match r with | .inl v => Ev (d + 1) m_Ce_sendRequest 93 [o0, o1, o2, some (.int x3), some (.ref a4), o5] (v.toList ++ st) w1 nc1 ns1 Q | .inr x => Q (.inr x) w1 nc1 ns1)) : Ev (d + 1) m_Ce_sendRequest 85 [o0, o1, o2, some (.int x3), some (.ref a4), o5] st w nc ns Q := by
  refine ev_aload d_Ce_sendRequest_85 rfl rfl ?_
  refine ev_iconst 4 d_Ce_sendRequest_87 (by decide) ?_
  refine ev_iconst 4 d_Ce_sendRequest_88 (by decide) ?_
  refine ev_iload_n d_Ce_sendRequest_89 rfl ?_
  exact ev_call (M' := m_Me_put) (As := [.ref a4, .int 4, .int 4, .int x3]) (st := st) d_Ce_sendRequest_90 i_Me_put (fun h => absurd h (by decide +kernel)) cw_Ce_33 rfl rfl ⟨hb.1, 8, _, _, hb.2, rfl, rfl⟩ rfl (Nat.le_of_ble_eq_true rfl) h8 k
theorem t_Ce_sendRequest_93 {d : Nat} {st : List Value} {a0 : Nat} {o1 : Option Value} {x2 : Int32} {x3 : Int32} {v4 : Value} {o5 : Option Value} {fs2 : List Value} {c4 : Nat} {n6 : Nat} {f7 : Nat → Option Nat} {c10 : Nat} {fsb : List Value} {w : qk_W} {nc ns : Nat} {Q : Option Value ⊕ Nat → qk_W → Nat → Nat → Prop} (hv4 : qk_isr v4 = true) (hw1 : wo w a0 5 fs2) (hf3 : fs2[0]? = some (.ref c4)) (ha5 : wr "QuakeLink$Track" w c4 n6 f7) (hi8 : vp_in x2 n6) (hr9 : f7 x2.toNatClampNeg = some c10) (hb : wo w c10 6 fsb) (h8 : ((.int 4 :: .int 8 :: v4 :: st).map fun v => Value.category v).sum ≤ 8) (k : Ev d m_Tr_endOfGap 0 [some (.ref c10), some (.int x3)] [] w nc ns (fun r w1 nc1 ns1 => match r with | .inl v => Ev (d + 1) m_Ce_sendRequest 108 [some (.ref a0), o1, some (.int x2), some (.int x3), some v4, o5] (v.toList ++ (.int 4 :: .int 8 :: v4 :: st)) w1 nc1 ns1 Q | .inr x => Q (.inr x) w1 nc1 ns1)) : Ev (d + 1) m_Ce_sendRequest 93 [some (.ref a0), o1, some (.int x2), some (.int x3), some v4, o5] st w nc ns Q := by
  refine ev_aload d_Ce_sendRequest_93 rfl hv4 ?_
  refine ev_bipush 8 d_Ce_sendRequest_95 (by decide) ?_
  refine ev_iconst 4 d_Ce_sendRequest_97 (by decide) ?_
  refine ev_aload_n d_Ce_sendRequest_98 rfl rfl ?_
  refine ev_getf d_Ce_sendRequest_99 fl_Ce_11 hw1.1 hw1.2 hf3 ?_
  refine ev_iload_n d_Ce_sendRequest_102 rfl ?_
  refine ev_aald d_Ce_sendRequest_103 ha5.1 (by decide) ha5.2 hi8 ?_
  rw [hr9]
  show Ev _ _ _ _ (Value.ref c10 :: _) _ _ _ _
  refine ev_iload_n d_Ce_sendRequest_104 rfl ?_
  exact ev_call (M' := m_Tr_endOfGap) (As := [.ref c10, .int x3]) (st := (.int 4 :: .int 8 :: v4 :: st)) d_Ce_sendRequest_105 i_Tr_endOfGap (fun h => absurd h (by decide +kernel)) cw_Ce_39 rfl rfl ⟨hb.1, 6, _, _, hb.2, rfl, rfl⟩ rfl (Nat.le_of_ble_eq_true rfl) h8 k
theorem t_Ce_sendRequest_108 {d : Nat} {st : List Value} {o0 : Option Value} {o1 : Option Value} {o2 : Option Value} {o3 : Option Value} {o4 : Option Value} {o5 : Option Value} {y0 : Int32} {y1 : Int32} {y2 : Int32} {b3 : Nat} {fsb : List Value} {w : qk_W} {nc ns : Nat} {Q : Option Value ⊕ Nat → qk_W → Nat → Nat → Prop}  (hb : wo w b3 8 fsb) (h8 : (st.map fun v => Value.category v).sum ≤ 8) (k : Ev d m_Me_put 0 [some (.ref b3), some (.int y2), some (.int y1), some (.int y0), none] [] w nc ns (fun r w1 nc1 ns1 => match r with | .inl v => Ev (d + 1) m_Ce_sendRequest 111 [o0, o1, o2, o3, o4, o5] (v.toList ++ st) w1 nc1 ns1 Q | .inr x => Q (.inr x) w1 nc1 ns1)) : Ev (d + 1) m_Ce_sendRequest 108 [o0, o1, o2, o3, o4, o5] (.int y0 :: .int y1 :: .int y2 :: .ref b3 :: st) w nc ns Q := by
  exact ev_call (M' := m_Me_put) (As := [.ref b3, .int y2, .int y1, .int y0]) (st := st) d_Ce_sendRequest_108 i_Me_put (fun h => absurd h (by decide +kernel)) cw_Ce_33 rfl rfl ⟨hb.1, 8, _, _, hb.2, rfl, rfl⟩ rfl (Nat.le_of_ble_eq_true rfl) h8 k
theorem t_Ce_sendRequest_111 {d : Nat} {st : List Value} {o0 : Option Value} {o1 : Option Value} {o2 : Option Value} {o3 : Option Value} {a4 : Nat} {o5 : Option Value} {fsb : List Value} {w : qk_W} {nc ns : Nat} {Q : Option Value ⊕ Nat → qk_W → Nat → Nat → Prop}  (hb : wo w a4 8 fsb) (h8 : (st.map fun v => Value.category v).sum ≤ 8) (k : Ev d m_Me_seal 0 [some (.ref a4)] [] w nc ns (fun r w1 nc1 ns1 => match r with | .inl v => Ev (d + 1) m_Ce_sendRequest 116 [o0, o1, o2, o3, some (.ref a4), o5] (v.toList ++ st) w1 nc1 ns1 Q | .inr x => Q (.inr x) w1 nc1 ns1)) : Ev (d + 1) m_Ce_sendRequest 111 [o0, o1, o2, o3, some (.ref a4), o5] st w nc ns Q := by
  refine ev_aload d_Ce_sendRequest_111 rfl rfl ?_
  exact ev_call (M' := m_Me_seal) (As := [.ref a4]) (st := st) d_Ce_sendRequest_113 i_Me_seal (fun h => absurd h (by decide +kernel)) cw_Ce_42 rfl rfl ⟨hb.1, 8, _, _, hb.2, rfl, rfl⟩ rfl (Nat.le_of_ble_eq_true rfl) h8 k
theorem t_Ce_sendRequest_116 {d : Nat} {o0 : Option Value} {o1 : Option Value} {o2 : Option Value} {o3 : Option Value} {o4 : Option Value} {o5 : Option Value} {w : qk_W} {nc ns : Nat} {Q : Option Value ⊕ Nat → qk_W → Nat → Nat → Prop}   (hq : Q (.inl (some (.int 1))) w nc ns) : Ev d m_Ce_sendRequest 116 [o0, o1, o2, o3, o4, o5] [] w nc ns Q := by
  refine ev_iconst 1 d_Ce_sendRequest_116 (by decide) ?_
  exact ev_iret d_Ce_sendRequest_117 rfl rfl hq
/-! St_take -/
theorem cw_St_24 : qk_cw "QuakeLink$Station" m_Ch_mustCloseBefore.1 (.invokevirtual 24) := ⟨(lw_i3 _ (List.mem_of_getElem? (i := 15) rfl)), (lw_i3 _ (List.mem_of_getElem? (i := 16) rfl)), (lw_i3 _ (List.mem_of_getElem? (i := 17) rfl))⟩
theorem cw_St_28 : qk_cw "QuakeLink$Station" m_St_close.1 (.invokevirtual 28) := ⟨(lw_i3 _ (List.mem_of_getElem? (i := 39) rfl)), (lw_i3 _ (List.mem_of_getElem? (i := 40) rfl)), (lw_i3 _ (List.mem_of_getElem? (i := 41) rfl))⟩
theorem cw_St_32 : qk_cw "QuakeLink$Station" m_Ch_add.1 (.invokevirtual 32) := ⟨(lw_i3 _ (List.mem_of_getElem? (i := 60) rfl)), (lw_i3 _ (List.mem_of_getElem? (i := 61) rfl)), (lw_i3 _ (List.mem_of_getElem? (i := 62) rfl))⟩
theorem cw_St_35 : qk_cw "QuakeLink$Station" m_Ch_inOpen.1 (.invokevirtual 35) := ⟨(lw_i3 _ (List.mem_of_getElem? (i := 72) rfl)), (lw_i3 _ (List.mem_of_getElem? (i := 20) rfl)), (lw_i3 _ (List.mem_of_getElem? (i := 21) rfl))⟩
theorem d_St_take_0 : decode m_St_take.2.1 0 = .ok (.aload_n 1, 1) := by decide +kernel
theorem d_St_take_1 : decode m_St_take.2.1 1 = .ok (.iload_n 2, 1) := by decide +kernel
theorem d_St_take_2 : decode m_St_take.2.1 2 = .ok (.invokevirtual 24, 3) := by decide +kernel
theorem d_St_take_5 : decode m_St_take.2.1 5 = .ok (.ifCond .eq 8, 3) := by decide +kernel
theorem d_St_take_8 : decode m_St_take.2.1 8 = .ok (.aload_n 0, 1) := by decide +kernel
theorem d_St_take_9 : decode m_St_take.2.1 9 = .ok (.aload_n 1, 1) := by decide +kernel
theorem d_St_take_10 : decode m_St_take.2.1 10 = .ok (.invokevirtual 28, 3) := by decide +kernel
theorem d_St_take_13 : decode m_St_take.2.1 13 = .ok (.aload_n 1, 1) := by decide +kernel
theorem d_St_take_14 : decode m_St_take.2.1 14 = .ok (.iload_n 2, 1) := by decide +kernel
theorem d_St_take_15 : decode m_St_take.2.1 15 = .ok (.invokevirtual 32, 3) := by decide +kernel
theorem d_St_take_18 : decode m_St_take.2.1 18 = .ok (.aload_n 1, 1) := by decide +kernel
theorem d_St_take_19 : decode m_St_take.2.1 19 = .ok (.invokevirtual 35, 3) := by decide +kernel
theorem d_St_take_22 : decode m_St_take.2.1 22 = .ok (.sipush 1000, 3) := by decide +kernel
theorem d_St_take_25 : decode m_St_take.2.1 25 = .ok (.if_icmp .ne 8, 3) := by decide +kernel
theorem d_St_take_28 : decode m_St_take.2.1 28 = .ok (.aload_n 0, 1) := by decide +kernel
theorem d_St_take_29 : decode m_St_take.2.1 29 = .ok (.aload_n 1, 1) := by decide +kernel
theorem d_St_take_30 : decode m_St_take.2.1 30 = .ok (.invokevirtual 28, 3) := by decide +kernel
theorem d_St_take_33 : decode m_St_take.2.1 33 = .ok (.return_, 1) := by decide +kernel
theorem t_St_take_0 {d : Nat} {st : List Value} {o0 : Option Value} {a1 : Nat} {x2 : Int32} {fsb : List Value} {w : qk_W} {nc ns : Nat} {Q : Option Value ⊕ Nat → qk_W → Nat → Nat → Prop}  (hb : wo w a1 2 fsb) (h8 : (st.map fun v => Value.category v).sum ≤ 8) (k : Ev d m_Ch_mustCloseBefore 0 [some (.ref a1), some (.int x2)] [] w nc ns (fun r w1 nc1 ns1 => match r with | .inl v => Ev (d + 1) m_St_take 5 [o0, some (.ref a1), some (.int x2)] (v.toList ++ st) w1 nc1 ns1 Q | .inr x => Q (.inr x) w1 nc1 ns1)) : Ev (d + 1) m_St_take 0 [o0, some (.ref a1), some (.int x2)] st w nc ns Q := by
  refine ev_aload_n d_St_take_0 rfl rfl ?_
  refine ev_iload_n d_St_take_1 rfl ?_
  exact ev_call (M' := m_Ch_mustCloseBefore) (As := [.ref a1, .int x2]) (st := st) d_St_take_2 i_Ch_mustCloseBefore (fun h => absurd h (by decide +kernel)) cw_St_24 rfl rfl ⟨hb.1, 2, _, _, hb.2, rfl, rfl⟩ rfl (Nat.le_of_ble_eq_true rfl) h8 k
theorem t_St_take_5 {d : Nat} {st : List Value} {o0 : Option Value} {o1 : Option Value} {o2 : Option Value} {y0 : Int32} {w : qk_W} {nc ns : Nat} {Q : Option Value ⊕ Nat → qk_W → Nat → Nat → Prop}   (kt : y0 = 0 → Ev d m_St_take 13 [o0, o1, o2] st w nc ns Q) (kf : ¬ (y0 = 0) → Ev d m_St_take 8 [o0, o1, o2] st w nc ns Q) : Ev d m_St_take 5 [o0, o1, o2] (.int y0 :: st) w nc ns Q := by
  exact ev_if_eq 13 d_St_take_5 (by decide) kt kf
theorem t_St_take_8 {d : Nat} {st : List Value} {a0 : Nat} {a1 : Nat} {o2 : Option Value} {fsb : List Value} {w : qk_W} {nc ns : Nat} {Q : Option Value ⊕ Nat → qk_W → Nat → Nat → Prop}  (hb : wo w a0 1 fsb) (h8 : (st.map fun v => Value.category v).sum ≤ 8) (k : Ev d m_St_close 0 [some (.ref a0), some (.ref a1)] [] w nc ns (fun r w1 nc1 ns1 => match r with | .inl v => Ev (d + 1) m_St_take 13 [some (.ref a0), some (.ref a1), o2] (v.toList ++ st) w1 nc1 ns1 Q | .inr x => Q (.inr x) w1 nc1 ns1)) : Ev (d + 1) m_St_take 8 [some (.ref a0), some (.ref a1), o2] st w nc ns Q := by
  refine ev_aload_n d_St_take_8 rfl rfl ?_
  refine ev_aload_n d_St_take_9 rfl rfl ?_
  exact ev_call (M' := m_St_close) (As := [.ref a0, .ref a1]) (st := st) d_St_take_10 i_St_close (fun h => absurd h (by decide +kernel)) cw_St_28 rfl rfl ⟨hb.1, 1, _, _, hb.2, rfl, rfl⟩ rfl (Nat.le_of_ble_eq_true rfl) h8 k
theorem t_St_take_13 {d : Nat} {st : List Value} {o0 : Option Value} {a1 : Nat} {x2 : Int32} {fsb : List Value} {w : qk_W} {nc ns : Nat} {Q : Option Value ⊕ Nat → qk_W → Nat → Nat → Prop}  (hb : wo w a1 2 fsb) (h8 : (st.map fun v => Value.category v).sum ≤ 8) (k : Ev d m_Ch_add 0 [some (.ref a1), some (.int x2), none] [] w nc ns (fun r w1 nc1 ns1 => match r with | .inl v => Ev (d + 1) m_St_take 18 [o0, some (.ref a1), some (.int x2)] (v.toList ++ st) w1 nc1 ns1 Q | .inr x => Q (.inr x) w1 nc1 ns1)) : Ev (d + 1) m_St_take 13 [o0, some (.ref a1), some (.int x2)] st w nc ns Q := by
  refine ev_aload_n d_St_take_13 rfl rfl ?_
  refine ev_iload_n d_St_take_14 rfl ?_
  exact ev_call (M' := m_Ch_add) (As := [.ref a1, .int x2]) (st := st) d_St_take_15 i_Ch_add (fun h => absurd h (by decide +kernel)) cw_St_32 rfl rfl ⟨hb.1, 2, _, _, hb.2, rfl, rfl⟩ rfl (Nat.le_of_ble_eq_true rfl) h8 k
theorem t_St_take_18 {d : Nat} {st : List Value} {o0 : Option Value} {a1 : Nat} {o2 : Option Value} {fsb : List Value} {w : qk_W} {nc ns : Nat} {Q : Option Value ⊕ Nat → qk_W → Nat → Nat → Prop}  (hb : wo w a1 2 fsb) (h8 : (st.map fun v => Value.category v).sum ≤ 8) (k : Ev d m_Ch_inOpen 0 [some (.ref a1)] [] w nc ns (fun r w1 nc1 ns1 => match r with | .inl v => Ev (d + 1) m_St_take 22 [o0, some (.ref a1), o2] (v.toList ++ st) w1 nc1 ns1 Q | .inr x => Q (.inr x) w1 nc1 ns1)) : Ev (d + 1) m_St_take 18 [o0, some (.ref a1), o2] st w nc ns Q := by
  refine ev_aload_n d_St_take_18 rfl rfl ?_
  exact ev_call (M' := m_Ch_inOpen) (As := [.ref a1]) (st := st) d_St_take_19 i_Ch_inOpen (fun h => absurd h (by decide +kernel)) cw_St_35 rfl rfl ⟨hb.1, 2, _, _, hb.2, rfl, rfl⟩ rfl (Nat.le_of_ble_eq_true rfl) h8 k
theorem t_St_take_22 {d : Nat} {st : List Value} {o0 : Option Value} {o1 : Option Value} {o2 : Option Value} {y0 : Int32} {w : qk_W} {nc ns : Nat} {Q : Option Value ⊕ Nat → qk_W → Nat → Nat → Prop}   (kt : ¬ y0 = (1000 : Int32) → Ev d m_St_take 33 [o0, o1, o2] st w nc ns Q) (kf : y0 = (1000 : Int32) → Ev d m_St_take 28 [o0, o1, o2] st w nc ns Q) : Ev d m_St_take 22 [o0, o1, o2] (.int y0 :: st) w nc ns Q := by
  refine ev_sipush 1000 d_St_take_22 (by decide) ?_
  exact ev_icmp_ne 33 d_St_take_25 (by decide) kt kf
theorem t_St_take_28 {d : Nat} {st : List Value} {a0 : Nat} {a1 : Nat} {o2 : Option Value} {fsb : List Value} {w : qk_W} {nc ns : Nat} {Q : Option Value ⊕ Nat → qk_W → Nat → Nat → Prop}  (hb : wo w a0 1 fsb) (h8 : (st.map fun v => Value.category v).sum ≤ 8) (k : Ev d m_St_close 0 [some (.ref a0), some (.ref a1)] [] w nc ns (fun r w1 nc1 ns1 => match r with | .inl v => Ev (d + 1) m_St_take 33 [some (.ref a0), some (.ref a1), o2] (v.toList ++ st) w1 nc1 ns1 Q | .inr x => Q (.inr x) w1 nc1 ns1)) : Ev (d + 1) m_St_take 28 [some (.ref a0), some (.ref a1), o2] st w nc ns Q := by
  refine ev_aload_n d_St_take_28 rfl rfl ?_
  refine ev_aload_n d_St_take_29 rfl rfl ?_
  exact ev_call (M' := m_St_close) (As := [.ref a0, .ref a1]) (st := st) d_St_take_30 i_St_close (fun h => absurd h (by decide +kernel)) cw_St_28 rfl rfl ⟨hb.1, 1, _, _, hb.2, rfl, rfl⟩ rfl (Nat.le_of_ble_eq_true rfl) h8 k
theorem t_St_take_33 {d : Nat} {o0 : Option Value} {o1 : Option Value} {o2 : Option Value} {w : qk_W} {nc ns : Nat} {Q : Option Value ⊕ Nat → qk_W → Nat → Nat → Prop}   (hq : Q (.inl none) w nc ns) : Ev d m_St_take 33 [o0, o1, o2] [] w nc ns Q := by
  exact ev_vret d_St_take_33 rfl hq
/-! St_close -/
theorem fl_St_39 : qk_fl "QuakeLink$Station" 39 1 3 := ⟨_, rfl, by decide, rfl, (lw_i1 _ (List.mem_of_getElem? (i := 91) rfl))⟩
theorem cw_St_42 : qk_cw "QuakeLink$Station" m_Ch_close.1 (.invokevirtual 42) := ⟨(lw_i3 _ (List.mem_of_getElem? (i := 43) rfl)), (lw_i3 _ (List.mem_of_getElem? (i := 44) rfl)), (lw_i3 _ (List.mem_of_getElem? (i := 45) rfl))⟩
theorem d_St_close_0 : decode m_St_close.2.1 0 = .ok (.aload_n 1, 1) := by decide +kernel
theorem d_St_close_1 : decode m_St_close.2.1 1 = .ok (.aload_n 0, 1) := by decide +kernel
theorem d_St_close_2 : decode m_St_close.2.1 2 = .ok (.getfield 17, 3) := by decide +kernel
theorem d_St_close_5 : decode m_St_close.2.1 5 = .ok (.aload_n 0, 1) := by decide +kernel
theorem d_St_close_6 : decode m_St_close.2.1 6 = .ok (.getfield 39, 3) := by decide +kernel
theorem d_St_close_9 : decode m_St_close.2.1 9 = .ok (.invokevirtual 42, 3) := by decide +kernel
theorem d_St_close_12 : decode m_St_close.2.1 12 = .ok (.aload_n 0, 1) := by decide +kernel
theorem d_St_close_13 : decode m_St_close.2.1 13 = .ok (.dup, 1) := by decide +kernel
theorem d_St_close_14 : decode m_St_close.2.1 14 = .ok (.getfield 39, 3) := by decide +kernel
theorem d_St_close_17 : decode m_St_close.2.1 17 = .ok (.iconst 1, 1) := by decide +kernel
theorem d_St_close_18 : decode m_St_close.2.1 18 = .ok (.iadd, 1) := by decide +kernel
theorem d_St_close_19 : decode m_St_close.2.1 19 = .ok (.putfield 39, 3) := by decide +kernel
theorem d_St_close_22 : decode m_St_close.2.1 22 = .ok (.return_, 1) := by decide +kernel
theorem t_St_close_0 {d : Nat} {st : List Value} {a0 : Nat} {a1 : Nat} {fs2 : List Value} {n4 : Int32} {n8 : Int32} {fsb : List Value} {w : qk_W} {nc ns : Nat} {Q : Option Value ⊕ Nat → qk_W → Nat → Nat → Prop}  (hw1 : wo w a0 1 fs2) (hf3 : fs2[1]? = some (.int n4)) (hf7 : fs2[3]? = some (.int n8)) (hb : wo w a1 2 fsb) (h8 : (st.map fun v => Value.category v).sum ≤ 8) (k : Ev d m_Ch_close 0 [some (.ref a1), some (.int n4), some (.int n8)] [] w nc ns (fun r w1 nc1 ns1 => match r with | .inl v => Ev (d + 1) m_St_close 12 [some (.ref a0), some (.ref a1)] (v.toList ++ st) w1 nc1 ns1 Q | .inr x => Q (.inr x) w1 nc1 ns1)) : Ev (d + 1) m_St_close 0 [some (.ref a0), some (.ref a1)] st w nc ns Q := by
  refine ev_aload_n d_St_close_0 rfl rfl ?_
  refine ev_aload_n d_St_close_1 rfl rfl ?_
  refine ev_getf d_St_close_2 fl_St_17 hw1.1 hw1.2 hf3 ?_
  refine ev_aload_n d_St_close_5 rfl rfl ?_
  refine ev_getf d_St_close_6 fl_St_39 hw1.1 hw1.2 hf7 ?_
  exact ev_call (M' := m_Ch_close) (As := [.ref a1, .int n4, .int n8]) (st := st) d_St_close_9 i_Ch_close (fun h => absurd h (by decide +kernel)) cw_St_42 rfl rfl ⟨hb.1, 2, _, _, hb.2, rfl, rfl⟩ rfl (Nat.le_of_ble_eq_true rfl) h8 k
theorem t_St_close_12 {d : Nat} {st : List Value} {a0 : Nat} {o1 : Option Value} {fs2 : List Value} {n4 : Int32} {w : qk_W} {nc ns : Nat} {Q : Option Value ⊕ Nat → qk_W → Nat → Nat → Prop}  (hw1 : wo w a0 1 fs2) (hf3 : fs2[3]? = some (.int n4)) (hk : 3 < fs2.length) (k : Ev d m_St_close 22 [some (.ref a0), o1] st (qk_set w a0 (.inr (1, fs2.set 3 (.int (n4 + 1))))) nc ns Q) : Ev d m_St_close 12 [some (.ref a0), o1] st w nc ns Q := by
  refine ev_aload_n d_St_close_12 rfl rfl ?_
  refine ev_dup d_St_close_13 rfl ?_
  refine ev_getf d_St_close_14 fl_St_39 hw1.1 hw1.2 hf3 ?_
  refine ev_iconst 1 d_St_close_17 (by decide) ?_
  refine ev_iadd d_St_close_18 ?_
  exact ev_putf d_St_close_19 fl_St_39 rfl hw1.1 hw1.2 hk (qk_fitI _) k
theorem t_St_close_22 {d : Nat} {o0 : Option Value} {o1 : Option Value} {w : qk_W} {nc ns : Nat} {Q : Option Value ⊕ Nat → qk_W → Nat → Nat → Prop}   (hq : Q (.inl none) w nc ns) : Ev d m_St_close 22 [o0, o1] [] w nc ns Q := by
  exact ev_vret d_St_close_22 rfl hq
/-! Ce_receive -/
theorem cw_Ce_45 : qk_cw "QuakeLink$Centre" m_Ce_isSound.1 (.invokestatic 45) := ⟨Or.inl (lw_i3 _ (List.mem_of_getElem? (i := 134) rfl)), (lw_i3 _ (List.mem_of_getElem? (i := 135) rfl))⟩
theorem fl_Ce_49 : qk_fl "QuakeLink$Centre" 49 5 1 := ⟨_, rfl, by decide, rfl, (lw_i1 _ (List.mem_of_getElem? (i := 151) rfl))⟩
theorem cw_Ce_52 : qk_cw "QuakeLink$Centre" m_Me_number.1 (.invokevirtual 52) := ⟨(lw_i3 _ (List.mem_of_getElem? (i := 149) rfl)), (lw_i3 _ (List.mem_of_getElem? (i := 146) rfl)), (lw_i3 _ (List.mem_of_getElem? (i := 147) rfl))⟩
theorem cw_Ce_56 : qk_cw "QuakeLink$Centre" m_Me_value.1 (.invokevirtual 56) := ⟨(lw_i3 _ (List.mem_of_getElem? (i := 217) rfl)), (lw_i3 _ (List.mem_of_getElem? (i := 142) rfl)), (lw_i3 _ (List.mem_of_getElem? (i := 143) rfl))⟩
theorem cw_Ce_59 : qk_cw "QuakeLink$Centre" m_Math_max.1 (.invokestatic 59) := ⟨Or.inl (lw_i3 _ (List.mem_of_getElem? (i := 218) rfl)), (lw_i1 _ (List.mem_of_getElem? (i := 204) rfl))⟩
theorem cw_Ce_65 : qk_cw "QuakeLink$Centre" m_Tr_clashes.1 (.invokevirtual 65) := ⟨(lw_i3 _ (List.mem_of_getElem? (i := 219) rfl)), (lw_i3 _ (List.mem_of_getElem? (i := 220) rfl)), (lw_i3 _ (List.mem_of_getElem? (i := 221) rfl))⟩
theorem fl_Ce_68 : qk_fl "QuakeLink$Centre" 68 5 2 := ⟨_, rfl, by decide, rfl, (lw_i1 _ (List.mem_of_getElem? (i := 153) rfl))⟩
theorem cw_Ce_71 : qk_cw "QuakeLink$Centre" m_Tr_keep.1 (.invokevirtual 71) := ⟨(lw_i4 _ (List.mem_of_getElem? (i := 14) rfl)), (lw_i4 _ (List.mem_of_getElem? (i := 15) rfl)), (lw_i4 _ (List.mem_of_getElem? (i := 16) rfl))⟩
theorem d_Ce_receive_0 : decode m_Ce_receive.2.1 0 = .ok (.aload_n 1, 1) := by decide +kernel
theorem d_Ce_receive_1 : decode m_Ce_receive.2.1 1 = .ok (.invokestatic 45, 3) := by decide +kernel
theorem d_Ce_receive_4 : decode m_Ce_receive.2.1 4 = .ok (.ifCond .ne 15, 3) := by decide +kernel
theorem d_Ce_receive_7 : decode m_Ce_receive.2.1 7 = .ok (.aload_n 0, 1) := by decide +kernel
theorem d_Ce_receive_8 : decode m_Ce_receive.2.1 8 = .ok (.dup, 1) := by decide +kernel
theorem d_Ce_receive_9 : decode m_Ce_receive.2.1 9 = .ok (.getfield 49, 3) := by decide +kernel
theorem d_Ce_receive_12 : decode m_Ce_receive.2.1 12 = .ok (.iconst 1, 1) := by decide +kernel
theorem d_Ce_receive_13 : decode m_Ce_receive.2.1 13 = .ok (.iadd, 1) := by decide +kernel
theorem d_Ce_receive_14 : decode m_Ce_receive.2.1 14 = .ok (.putfield 49, 3) := by decide +kernel
theorem d_Ce_receive_17 : decode m_Ce_receive.2.1 17 = .ok (.iconst (-1), 1) := by decide +kernel
theorem d_Ce_receive_18 : decode m_Ce_receive.2.1 18 = .ok (.ireturn, 1) := by decide +kernel
theorem d_Ce_receive_19 : decode m_Ce_receive.2.1 19 = .ok (.aload_n 0, 1) := by decide +kernel
theorem d_Ce_receive_20 : decode m_Ce_receive.2.1 20 = .ok (.getfield 11, 3) := by decide +kernel
theorem d_Ce_receive_23 : decode m_Ce_receive.2.1 23 = .ok (.aload_n 1, 1) := by decide +kernel
theorem d_Ce_receive_24 : decode m_Ce_receive.2.1 24 = .ok (.iconst 0, 1) := by decide +kernel
theorem d_Ce_receive_25 : decode m_Ce_receive.2.1 25 = .ok (.iconst 1, 1) := by decide +kernel
theorem d_Ce_receive_26 : decode m_Ce_receive.2.1 26 = .ok (.invokevirtual 52, 3) := by decide +kernel
theorem d_Ce_receive_29 : decode m_Ce_receive.2.1 29 = .ok (.l2i, 1) := by decide +kernel
theorem d_Ce_receive_30 : decode m_Ce_receive.2.1 30 = .ok (.aaload, 1) := by decide +kernel
theorem d_Ce_receive_31 : decode m_Ce_receive.2.1 31 = .ok (.astore_n 2, 1) := by decide +kernel
theorem d_Ce_receive_32 : decode m_Ce_receive.2.1 32 = .ok (.aload_n 2, 1) := by decide +kernel
theorem d_Ce_receive_33 : decode m_Ce_receive.2.1 33 = .ok (.aload_n 2, 1) := by decide +kernel
theorem d_Ce_receive_34 : decode m_Ce_receive.2.1 34 = .ok (.getfield 19, 3) := by decide +kernel
theorem d_Ce_receive_37 : decode m_Ce_receive.2.1 37 = .ok (.aload_n 1, 1) := by decide +kernel
theorem d_Ce_receive_38 : decode m_Ce_receive.2.1 38 = .ok (.iconst 4, 1) := by decide +kernel
theorem d_Ce_receive_39 : decode m_Ce_receive.2.1 39 = .ok (.invokevirtual 56, 3) := by decide +kernel
theorem d_Ce_receive_42 : decode m_Ce_receive.2.1 42 = .ok (.invokestatic 59, 3) := by decide +kernel
theorem d_Ce_receive_45 : decode m_Ce_receive.2.1 45 = .ok (.putfield 19, 3) := by decide +kernel
theorem d_Ce_receive_48 : decode m_Ce_receive.2.1 48 = .ok (.aload_n 1, 1) := by decide +kernel
theorem d_Ce_receive_49 : decode m_Ce_receive.2.1 49 = .ok (.iconst 2, 1) := by decide +kernel
theorem d_Ce_receive_50 : decode m_Ce_receive.2.1 50 = .ok (.iconst 2, 1) := by decide +kernel
theorem d_Ce_receive_51 : decode m_Ce_receive.2.1 51 = .ok (.invokevirtual 52, 3) := by decide +kernel
theorem d_Ce_receive_54 : decode m_Ce_receive.2.1 54 = .ok (.lconst 0, 1) := by decide +kernel
theorem d_Ce_receive_55 : decode m_Ce_receive.2.1 55 = .ok (.lcmp, 1) := by decide +kernel
theorem d_Ce_receive_56 : decode m_Ce_receive.2.1 56 = .ok (.ifCond .ne 5, 3) := by decide +kernel
theorem d_Ce_receive_59 : decode m_Ce_receive.2.1 59 = .ok (.iconst 0, 1) := by decide +kernel
theorem d_Ce_receive_60 : decode m_Ce_receive.2.1 60 = .ok (.ireturn, 1) := by decide +kernel
theorem d_Ce_receive_61 : decode m_Ce_receive.2.1 61 = .ok (.aload_n 2, 1) := by decide +kernel
theorem d_Ce_receive_62 : decode m_Ce_receive.2.1 62 = .ok (.aload_n 1, 1) := by decide +kernel
theorem d_Ce_receive_63 : decode m_Ce_receive.2.1 63 = .ok (.invokevirtual 65, 3) := by decide +kernel
theorem d_Ce_receive_66 : decode m_Ce_receive.2.1 66 = .ok (.ifCond .eq 16, 3) := by decide +kernel
theorem d_Ce_receive_69 : decode m_Ce_receive.2.1 69 = .ok (.aload_n 0, 1) := by decide +kernel
theorem d_Ce_receive_70 : decode m_Ce_receive.2.1 70 = .ok (.dup, 1) := by decide +kernel
theorem d_Ce_receive_71 : decode m_Ce_receive.2.1 71 = .ok (.getfield 68, 3) := by decide +kernel
theorem d_Ce_receive_74 : decode m_Ce_receive.2.1 74 = .ok (.iconst 1, 1) := by decide +kernel
theorem d_Ce_receive_75 : decode m_Ce_receive.2.1 75 = .ok (.iadd, 1) := by decide +kernel
theorem d_Ce_receive_76 : decode m_Ce_receive.2.1 76 = .ok (.putfield 68, 3) := by decide +kernel
theorem d_Ce_receive_79 : decode m_Ce_receive.2.1 79 = .ok (.bipush (-2), 2) := by decide +kernel
theorem d_Ce_receive_81 : decode m_Ce_receive.2.1 81 = .ok (.ireturn, 1) := by decide +kernel
theorem d_Ce_receive_82 : decode m_Ce_receive.2.1 82 = .ok (.aload_n 2, 1) := by decide +kernel
theorem d_Ce_receive_83 : decode m_Ce_receive.2.1 83 = .ok (.aload_n 1, 1) := by decide +kernel
theorem d_Ce_receive_84 : decode m_Ce_receive.2.1 84 = .ok (.invokevirtual 71, 3) := by decide +kernel
theorem d_Ce_receive_87 : decode m_Ce_receive.2.1 87 = .ok (.ireturn, 1) := by decide +kernel
theorem t_Ce_receive_0 {d : Nat} {st : List Value} {o0 : Option Value} {a1 : Nat} {o2 : Option Value} {w : qk_W} {nc ns : Nat} {Q : Option Value ⊕ Nat → qk_W → Nat → Nat → Prop}  (h8 : (st.map fun v => Value.category v).sum ≤ 8) (k : Ev d m_Ce_isSound 0 [some (.ref a1)] [] w nc ns (fun r w1 nc1 ns1 => match r with | .inl v => Ev (d + 1) m_Ce_receive 4 [o0, some (.ref a1), o2] (v.toList ++ st) w1 nc1 ns1 Q | .inr x => Q (.inr x) w1 nc1 ns1)) : Ev (d + 1) m_Ce_receive 0 [o0, some (.ref a1), o2] st w nc ns Q := by
  refine ev_aload_n d_Ce_receive_0 rfl rfl ?_
  exact ev_call (M' := m_Ce_isSound) (As := [.ref a1]) (st := st) d_Ce_receive_1 i_Ce_isSound (fun h => absurd h (by decide +kernel)) cw_Ce_45 rfl rfl trivial rfl (Nat.le_of_ble_eq_true rfl) h8 k
theorem t_Ce_receive_4 {d : Nat} {st : List Value} {o0 : Option Value} {o1 : Option Value} {o2 : Option Value} {y0 : Int32} {w : qk_W} {nc ns : Nat} {Q : Option Value ⊕ Nat → qk_W → Nat → Nat → Prop}   (kt : ¬ y0 = 0 → Ev d m_Ce_receive 19 [o0, o1, o2] st w nc ns Q) (kf : y0 = 0 → Ev d m_Ce_receive 7 [o0, o1, o2] st w nc ns Q) : Ev d m_Ce_receive 4 [o0, o1, o2] (.int y0 :: st) w nc ns Q := by
  exact ev_if_ne 19 d_Ce_receive_4 (by decide) kt kf
theorem t_Ce_receive_7 {d : Nat} {st : List Value} {a0 : Nat} {o1 : Option Value} {o2 : Option Value} {fs2 : List Value} {n4 : Int32} {w : qk_W} {nc ns : Nat} {Q : Option Value ⊕ Nat → qk_W → Nat → Nat → Prop}  (hw1 : wo w a0 5 fs2) (hf3 : fs2[1]? = some (.int n4)) (hk : 1 < fs2.length) (k : Ev d m_Ce_receive 17 [some (.ref a0), o1, o2] st (qk_set w a0 (.inr (5, fs2.set 1 (.int (n4 + 1))))) nc ns Q) : Ev d m_Ce_receive 7 [some (.ref a0), o1, o2] st w nc ns Q := by
  refine ev_aload_n d_Ce_receive_7 rfl rfl ?_
  refine ev_dup d_Ce_receive_8 rfl ?_
  refine ev_getf d_Ce_receive_9 fl_Ce_49 hw1.1 hw1.2 hf3 ?_
  refine ev_iconst 1 d_Ce_receive_12 (by decide) ?_
  refine ev_iadd d_Ce_receive_13 ?_
  exact ev_putf d_Ce_receive_14 fl_Ce_49 rfl hw1.1 hw1.2 hk (qk_fitI _) k
theorem t_Ce_receive_17 {d : Nat} {o0 : Option Value} {o1 : Option Value} {o2 : Option Value} {w : qk_W} {nc ns : Nat} {Q : Option Value ⊕ Nat → qk_W → Nat → Nat → Prop}   (hq : Q (.inl (some (.int (-1)))) w nc ns) : Ev d m_Ce_receive 17 [o0, o1, o2] [] w nc ns Q := by
  refine ev_iconst (-1) d_Ce_receive_17 (by decide) ?_
  exact ev_iret d_Ce_receive_18 rfl rfl hq
theorem t_Ce_receive_19 {d : Nat} {st : List Value} {a0 : Nat} {a1 : Nat} {o2 : Option Value} {fs2 : List Value} {c4 : Nat} {fsb : List Value} {w : qk_W} {nc ns : Nat} {Q : Option Value ⊕ Nat → qk_W → Nat → Nat → Prop}  (hw1 : wo w a0 5 fs2) (hf3 : fs2[0]? = some (.ref c4)) (hb : wo w a1 8 fsb) (h8 : ((.ref c4 :: st).map fun v => Value.category v).sum ≤ 8) (k : Ev d m_Me_number 0 [some (.ref a1), some (.int 0), some (.int 1), none, none, none] [] w nc ns (fun r w1 nc1 ns1 => match r with | .inl v => Ev (d + 1) m_Ce_receive 29 [some (.ref a0), some (.ref a1), o2] (v.toList ++ (.ref c4 :: st)) w1 nc1 ns1 Q | .inr x => Q (.inr x) w1 nc1 ns1)) : Ev (d + 1) m_Ce_receive 19 [some (.ref a0), some (.ref a1), o2] st w nc ns Q := by
  refine ev_aload_n d_Ce_receive_19 rfl rfl ?_
  refine ev_getf d_Ce_receive_20 fl_Ce_11 hw1.1 hw1.2 hf3 ?_
  refine ev_aload_n d_Ce_receive_23 rfl rfl ?_
  refine ev_iconst 0 d_Ce_receive_24 (by decide) ?_
  refine ev_iconst 1 d_Ce_receive_25 (by decide) ?_
  exact ev_call (M' := m_Me_number) (As := [.ref a1, .int 0, .int 1]) (st := (.ref c4 :: st)) d_Ce_receive_26 i_Me_number (fun h => absurd h (by decide +kernel)) cw_Ce_52 rfl rfl ⟨hb.1, 8, _, _, hb.2, rfl, rfl⟩ rfl (Nat.le_of_ble_eq_true rfl) h8 k
theorem t_Ce_receive_29 {d : Nat} {st : List Value} {o0 : Option Value} {a1 : Nat} {o2 : Option Value} {y0 : Int64} {b1 : Nat} {n2 : Nat} {f3 : Nat → Option Nat} {c6 : Nat} {fs9 : List Value} {n11 : Int32} {fsb : List Value} {w : qk_W} {nc ns : Nat} {Q : Option Value ⊕ Nat → qk_W → Nat → Nat → Prop}  (ha1 : wr "QuakeLink$Track" w b1 n2 f3) (hi4 : vp_in (Int64.toInt32 y0) n2) (hr5 : f3 (Int64.toInt32 y0).toNatClampNeg = some c6) (hc7 : qk_c2 [o0, some (.ref a1), o2] 2 = true) (hw8 : wo w c6 6 fs9) (hf10 : fs9[1]? = some (.int n11)) (hb : wo w a1 8 fsb) (h8 : ((.int n11 :: .ref c6 :: st).map fun v => Value.category v).sum ≤ 8) (k : Ev d m_Me_value 0 [some (.ref a1), some (.int 4)] [] w nc ns (fun r w1 nc1 ns1 => match r with | .inl v => Ev (d + 1) m_Ce_receive 42 [o0, some (.ref a1), some (.ref c6)] (v.toList ++ (.int n11 :: .ref c6 :: st)) w1 nc1 ns1 Q | .inr x => Q (.inr x) w1 nc1 ns1)) : Ev (d + 1) m_Ce_receive 29 [o0, some (.ref a1), o2] (.long y0 :: .ref b1 :: st) w nc ns Q := by
  refine ev_l2i d_Ce_receive_29 ?_
  refine ev_aald d_Ce_receive_30 ha1.1 (by decide) ha1.2 hi4 ?_
  rw [hr5]
  show Ev _ _ _ _ (Value.ref c6 :: _) _ _ _ _
  refine ev_astore_n d_Ce_receive_31 rfl (by decide) hc7 ?_
  refine ev_aload_n d_Ce_receive_32 rfl rfl ?_
  refine ev_aload_n d_Ce_receive_33 rfl rfl ?_
  refine ev_getf d_Ce_receive_34 fl_Ce_19 hw8.1 hw8.2 hf10 ?_
  refine ev_aload_n d_Ce_receive_37 rfl rfl ?_
  refine ev_iconst 4 d_Ce_receive_38 (by decide) ?_
  exact ev_call (M' := m_Me_value) (As := [.ref a1, .int 4]) (st := (.int n11 :: .ref c6 :: st)) d_Ce_receive_39 i_Me_value (fun h => absurd h (by decide +kernel)) cw_Ce_56 rfl rfl ⟨hb.1, 8, _, _, hb.2, rfl, rfl⟩ rfl (Nat.le_of_ble_eq_true rfl) h8 k
theorem t_Ce_receive_42 {d : Nat} {st : List Value} {o0 : Option Value} {o1 : Option Value} {o2 : Option Value} {y0 : Int32} {y1 : Int32} {w : qk_W} {nc ns : Nat} {Q : Option Value ⊕ Nat → qk_W → Nat → Nat → Prop}  (h8 : (st.map fun v => Value.category v).sum ≤ 8) (k : Ev d m_Math_max 0 [some (.int y1), some (.int y0)] [] w nc ns (fun r w1 nc1 ns1 => match r with | .inl v => Ev (d + 1) m_Ce_receive 45 [o0, o1, o2] (v.toList ++ st) w1 nc1 ns1 Q | .inr x => Q (.inr x) w1 nc1 ns1)) : Ev (d + 1) m_Ce_receive 42 [o0, o1, o2] (.int y0 :: .int y1 :: st) w nc ns Q := by
  exact ev_call (M' := m_Math_max) (As := [.int y1, .int y0]) (st := st) d_Ce_receive_42 i_Math_max (fun h => absurd h (by decide +kernel)) cw_Ce_59 rfl rfl trivial rfl (Nat.le_of_ble_eq_true rfl) h8 k
theorem t_Ce_receive_45 {d : Nat} {st : List Value} {o0 : Option Value} {o1 : Option Value} {o2 : Option Value} {y0 : Int32} {b1 : Nat} {fs2 : List Value} {w : qk_W} {nc ns : Nat} {Q : Option Value ⊕ Nat → qk_W → Nat → Nat → Prop}  (hw1 : wo w b1 6 fs2) (hk : 1 < fs2.length) (k : Ev d m_Ce_receive 48 [o0, o1, o2] st (qk_set w b1 (.inr (6, fs2.set 1 (.int y0)))) nc ns Q) : Ev d m_Ce_receive 45 [o0, o1, o2] (.int y0 :: .ref b1 :: st) w nc ns Q := by
  exact ev_putf d_Ce_receive_45 fl_Ce_19 rfl hw1.1 hw1.2 hk (qk_fitI _) k
theorem t_Ce_receive_48 {d : Nat} {st : List Value} {o0 : Option Value} {a1 : Nat} {o2 : Option Value} {fsb : List Value} {w : qk_W} {nc ns : Nat} {Q : Option Value ⊕ Nat → qk_W → Nat → Nat → Prop}  (hb : wo w a1 8 fsb) (h8 : (st.map fun v => Value.category v).sum ≤ 8) (k : Ev d m_Me_number 0 [some (.ref a1), some (.int 2), some (.int 2), none, none, none] [] w nc ns (fun r w1 nc1 ns1 => match r with | .inl v => Ev (d + 1) m_Ce_receive 54 [o0, some (.ref a1), o2] (v.toList ++ st) w1 nc1 ns1 Q | .inr x => Q (.inr x) w1 nc1 ns1)) : Ev (d + 1) m_Ce_receive 48 [o0, some (.ref a1), o2] st w nc ns Q := by
  refine ev_aload_n d_Ce_receive_48 rfl rfl ?_
  refine ev_iconst 2 d_Ce_receive_49 (by decide) ?_
  refine ev_iconst 2 d_Ce_receive_50 (by decide) ?_
  exact ev_call (M' := m_Me_number) (As := [.ref a1, .int 2, .int 2]) (st := st) d_Ce_receive_51 i_Me_number (fun h => absurd h (by decide +kernel)) cw_Ce_52 rfl rfl ⟨hb.1, 8, _, _, hb.2, rfl, rfl⟩ rfl (Nat.le_of_ble_eq_true rfl) h8 k
theorem t_Ce_receive_54 {d : Nat} {st : List Value} {o0 : Option Value} {o1 : Option Value} {o2 : Option Value} {y0 : Int64} {w : qk_W} {nc ns : Nat} {Q : Option Value ⊕ Nat → qk_W → Nat → Nat → Prop}   (kt : ¬ (lg_cmp y0 0) = 0 → Ev d m_Ce_receive 61 [o0, o1, o2] st w nc ns Q) (kf : (lg_cmp y0 0) = 0 → Ev d m_Ce_receive 59 [o0, o1, o2] st w nc ns Q) : Ev d m_Ce_receive 54 [o0, o1, o2] (.long y0 :: st) w nc ns Q := by
  refine ev_lconst 0 d_Ce_receive_54 (by decide) ?_
  refine ev_lcmp d_Ce_receive_55 ?_
  exact ev_if_ne 61 d_Ce_receive_56 (by decide) kt kf
theorem t_Ce_receive_59 {d : Nat} {o0 : Option Value} {o1 : Option Value} {o2 : Option Value} {w : qk_W} {nc ns : Nat} {Q : Option Value ⊕ Nat → qk_W → Nat → Nat → Prop}   (hq : Q (.inl (some (.int 0))) w nc ns) : Ev d m_Ce_receive 59 [o0, o1, o2] [] w nc ns Q := by
  refine ev_iconst 0 d_Ce_receive_59 (by decide) ?_
  exact ev_iret d_Ce_receive_60 rfl rfl hq
theorem t_Ce_receive_61 {d : Nat} {st : List Value} {o0 : Option Value} {a1 : Nat} {a2 : Nat} {fsb : List Value} {w : qk_W} {nc ns : Nat} {Q : Option Value ⊕ Nat → qk_W → Nat → Nat → Prop}  (hb : wo w a2 6 fsb) (h8 : (st.map fun v => Value.category v).sum ≤ 8) (k : Ev d m_Tr_clashes 0 [some (.ref a2), some (.ref a1), none, none, none, none] [] w nc ns (fun r w1 nc1 ns1 => match r with | .inl v => Ev (d + 1) m_Ce_receive 66 [o0, some (.ref a1), some (.ref a2)] (v.toList ++ st) w1 nc1 ns1 Q | .inr x => Q (.inr x) w1 nc1 ns1)) : Ev (d + 1) m_Ce_receive 61 [o0, some (.ref a1), some (.ref a2)] st w nc ns Q := by
  refine ev_aload_n d_Ce_receive_61 rfl rfl ?_
  refine ev_aload_n d_Ce_receive_62 rfl rfl ?_
  exact ev_call (M' := m_Tr_clashes) (As := [.ref a2, .ref a1]) (st := st) d_Ce_receive_63 i_Tr_clashes (fun h => absurd h (by decide +kernel)) cw_Ce_65 rfl rfl ⟨hb.1, 6, _, _, hb.2, rfl, rfl⟩ rfl (Nat.le_of_ble_eq_true rfl) h8 k
theorem t_Ce_receive_66 {d : Nat} {st : List Value} {o0 : Option Value} {o1 : Option Value} {o2 : Option Value} {y0 : Int32} {w : qk_W} {nc ns : Nat} {Q : Option Value ⊕ Nat → qk_W → Nat → Nat → Prop}   (kt : y0 = 0 → Ev d m_Ce_receive 82 [o0, o1, o2] st w nc ns Q) (kf : ¬ (y0 = 0) → Ev d m_Ce_receive 69 [o0, o1, o2] st w nc ns Q) : Ev d m_Ce_receive 66 [o0, o1, o2] (.int y0 :: st) w nc ns Q := by
  exact ev_if_eq 82 d_Ce_receive_66 (by decide) kt kf
theorem t_Ce_receive_69 {d : Nat} {st : List Value} {a0 : Nat} {o1 : Option Value} {o2 : Option Value} {fs2 : List Value} {n4 : Int32} {w : qk_W} {nc ns : Nat} {Q : Option Value ⊕ Nat → qk_W → Nat → Nat → Prop}  (hw1 : wo w a0 5 fs2) (hf3 : fs2[2]? = some (.int n4)) (hk : 2 < fs2.length) (k : Ev d m_Ce_receive 79 [some (.ref a0), o1, o2] st (qk_set w a0 (.inr (5, fs2.set 2 (.int (n4 + 1))))) nc ns Q) : Ev d m_Ce_receive 69 [some (.ref a0), o1, o2] st w nc ns Q := by
  refine ev_aload_n d_Ce_receive_69 rfl rfl ?_
  refine ev_dup d_Ce_receive_70 rfl ?_
  refine ev_getf d_Ce_receive_71 fl_Ce_68 hw1.1 hw1.2 hf3 ?_
  refine ev_iconst 1 d_Ce_receive_74 (by decide) ?_
  refine ev_iadd d_Ce_receive_75 ?_
  exact ev_putf d_Ce_receive_76 fl_Ce_68 rfl hw1.1 hw1.2 hk (qk_fitI _) k
theorem t_Ce_receive_79 {d : Nat} {o0 : Option Value} {o1 : Option Value} {o2 : Option Value} {w : qk_W} {nc ns : Nat} {Q : Option Value ⊕ Nat → qk_W → Nat → Nat → Prop}   (hq : Q (.inl (some (.int (-2)))) w nc ns) : Ev d m_Ce_receive 79 [o0, o1, o2] [] w nc ns Q := by
  refine ev_bipush (-2) d_Ce_receive_79 (by decide) ?_
  exact ev_iret d_Ce_receive_81 rfl rfl hq
theorem t_Ce_receive_82 {d : Nat} {st : List Value} {o0 : Option Value} {a1 : Nat} {a2 : Nat} {fsb : List Value} {w : qk_W} {nc ns : Nat} {Q : Option Value ⊕ Nat → qk_W → Nat → Nat → Prop}  (hb : wo w a2 6 fsb) (h8 : (st.map fun v => Value.category v).sum ≤ 8) (k : Ev d m_Tr_keep 0 [some (.ref a2), some (.ref a1), none, none, none, none, none, none] [] w nc ns (fun r w1 nc1 ns1 => match r with | .inl v => Ev (d + 1) m_Ce_receive 87 [o0, some (.ref a1), some (.ref a2)] (v.toList ++ st) w1 nc1 ns1 Q | .inr x => Q (.inr x) w1 nc1 ns1)) : Ev (d + 1) m_Ce_receive 82 [o0, some (.ref a1), some (.ref a2)] st w nc ns Q := by
  refine ev_aload_n d_Ce_receive_82 rfl rfl ?_
  refine ev_aload_n d_Ce_receive_83 rfl rfl ?_
  exact ev_call (M' := m_Tr_keep) (As := [.ref a2, .ref a1]) (st := st) d_Ce_receive_84 i_Tr_keep (fun h => absurd h (by decide +kernel)) cw_Ce_71 rfl rfl ⟨hb.1, 6, _, _, hb.2, rfl, rfl⟩ rfl (Nat.le_of_ble_eq_true rfl) h8 k
theorem t_Ce_receive_87 {d : Nat} {o0 : Option Value} {o1 : Option Value} {o2 : Option Value} {y0 : Int32} {w : qk_W} {nc ns : Nat} {Q : Option Value ⊕ Nat → qk_W → Nat → Nat → Prop}   (hq : Q (.inl (some (.int y0))) w nc ns) : Ev d m_Ce_receive 87 [o0, o1, o2] [.int y0] w nc ns Q := by
  exact ev_iret d_Ce_receive_87 rfl rfl hq
/-! Ce_isSound -/
theorem fl_Ce_75 : qk_fl "QuakeLink$Centre" 75 8 1 := ⟨_, rfl, by decide, rfl, (lw_i1 _ (List.mem_of_getElem? (i := 235) rfl))⟩
theorem cw_Ce_78 : qk_cw "QuakeLink$Centre" m_Me_isSealed.1 (.invokevirtual 78) := ⟨(lw_i3 _ (List.mem_of_getElem? (i := 137) rfl)), (lw_i3 _ (List.mem_of_getElem? (i := 138) rfl)), (lw_i3 _ (List.mem_of_getElem? (i := 139) rfl))⟩
theorem cw_Ce_82 : qk_cw "QuakeLink$Centre" m_Q_isChannel.1 (.invokestatic 82) := ⟨Or.inr ⟨"QuakeLink", (lw_i3 _ (List.mem_of_getElem? (i := 150) rfl))⟩, (lw_i2 _ (List.mem_of_getElem? (i := 161) rfl))⟩
theorem ll_Ce_86 : Cond.constantLong "QuakeLink$Centre" 86 (100) ∈ lw_tbl := (lw_i3 _ (List.mem_of_getElem? (i := 151) rfl))
theorem ll_Ce_88 : Cond.constantLong "QuakeLink$Centre" 88 (32768) ∈ lw_tbl := (lw_i3 _ (List.mem_of_getElem? (i := 152) rfl))
theorem cw_Ce_90 : qk_cw "QuakeLink$Centre" m_Ce_isEmpty.1 (.invokestatic 90) := ⟨Or.inl (lw_i3 _ (List.mem_of_getElem? (i := 153) rfl)), (lw_i3 _ (List.mem_of_getElem? (i := 154) rfl))⟩
theorem cw_Ce_93 : qk_cw "QuakeLink$Centre" m_Ce_isFilled.1 (.invokestatic 93) := ⟨Or.inl (lw_i3 _ (List.mem_of_getElem? (i := 156) rfl)), (lw_i3 _ (List.mem_of_getElem? (i := 157) rfl))⟩
theorem d_Ce_isSound_0 : decode m_Ce_isSound.2.1 0 = .ok (.aload_n 0, 1) := by decide +kernel
theorem d_Ce_isSound_1 : decode m_Ce_isSound.2.1 1 = .ok (.getfield 75, 3) := by decide +kernel
theorem d_Ce_isSound_4 : decode m_Ce_isSound.2.1 4 = .ok (.bipush 24, 2) := by decide +kernel
theorem d_Ce_isSound_6 : decode m_Ce_isSound.2.1 6 = .ok (.if_icmp .lt 80, 3) := by decide +kernel
theorem d_Ce_isSound_9 : decode m_Ce_isSound.2.1 9 = .ok (.aload_n 0, 1) := by decide +kernel
theorem d_Ce_isSound_10 : decode m_Ce_isSound.2.1 10 = .ok (.invokevirtual 78, 3) := by decide +kernel
theorem d_Ce_isSound_13 : decode m_Ce_isSound.2.1 13 = .ok (.ifCond .eq 73, 3) := by decide +kernel
theorem d_Ce_isSound_16 : decode m_Ce_isSound.2.1 16 = .ok (.aload_n 0, 1) := by decide +kernel
theorem d_Ce_isSound_17 : decode m_Ce_isSound.2.1 17 = .ok (.iconst 0, 1) := by decide +kernel
theorem d_Ce_isSound_18 : decode m_Ce_isSound.2.1 18 = .ok (.iconst 1, 1) := by decide +kernel
theorem d_Ce_isSound_19 : decode m_Ce_isSound.2.1 19 = .ok (.invokevirtual 52, 3) := by decide +kernel
theorem d_Ce_isSound_22 : decode m_Ce_isSound.2.1 22 = .ok (.invokestatic 82, 3) := by decide +kernel
theorem d_Ce_isSound_25 : decode m_Ce_isSound.2.1 25 = .ok (.ifCond .eq 61, 3) := by decide +kernel
theorem d_Ce_isSound_28 : decode m_Ce_isSound.2.1 28 = .ok (.aload_n 0, 1) := by decide +kernel
theorem d_Ce_isSound_29 : decode m_Ce_isSound.2.1 29 = .ok (.iconst 1, 1) := by decide +kernel
theorem d_Ce_isSound_30 : decode m_Ce_isSound.2.1 30 = .ok (.iconst 1, 1) := by decide +kernel
theorem d_Ce_isSound_31 : decode m_Ce_isSound.2.1 31 = .ok (.invokevirtual 52, 3) := by decide +kernel
theorem d_Ce_isSound_34 : decode m_Ce_isSound.2.1 34 = .ok (.ldc2_w 86, 3) := by decide +kernel
theorem d_Ce_isSound_37 : decode m_Ce_isSound.2.1 37 = .ok (.lcmp, 1) := by decide +kernel
theorem d_Ce_isSound_38 : decode m_Ce_isSound.2.1 38 = .ok (.ifCond .gt 48, 3) := by decide +kernel
theorem d_Ce_isSound_41 : decode m_Ce_isSound.2.1 41 = .ok (.aload_n 0, 1) := by decide +kernel
theorem d_Ce_isSound_42 : decode m_Ce_isSound.2.1 42 = .ok (.iconst 4, 1) := by decide +kernel
theorem d_Ce_isSound_43 : decode m_Ce_isSound.2.1 43 = .ok (.iconst 4, 1) := by decide +kernel
theorem d_Ce_isSound_44 : decode m_Ce_isSound.2.1 44 = .ok (.invokevirtual 52, 3) := by decide +kernel
theorem d_Ce_isSound_47 : decode m_Ce_isSound.2.1 47 = .ok (.ldc2_w 88, 3) := by decide +kernel
theorem d_Ce_isSound_50 : decode m_Ce_isSound.2.1 50 = .ok (.lcmp, 1) := by decide +kernel
theorem d_Ce_isSound_51 : decode m_Ce_isSound.2.1 51 = .ok (.ifCond .gt 35, 3) := by decide +kernel
theorem d_Ce_isSound_54 : decode m_Ce_isSound.2.1 54 = .ok (.aload_n 0, 1) := by decide +kernel
theorem d_Ce_isSound_55 : decode m_Ce_isSound.2.1 55 = .ok (.iconst 2, 1) := by decide +kernel
theorem d_Ce_isSound_56 : decode m_Ce_isSound.2.1 56 = .ok (.iconst 2, 1) := by decide +kernel
theorem d_Ce_isSound_57 : decode m_Ce_isSound.2.1 57 = .ok (.invokevirtual 52, 3) := by decide +kernel
theorem d_Ce_isSound_60 : decode m_Ce_isSound.2.1 60 = .ok (.lconst 0, 1) := by decide +kernel
theorem d_Ce_isSound_61 : decode m_Ce_isSound.2.1 61 = .ok (.lcmp, 1) := by decide +kernel
theorem d_Ce_isSound_62 : decode m_Ce_isSound.2.1 62 = .ok (.ifCond .ne 13, 3) := by decide +kernel
theorem d_Ce_isSound_65 : decode m_Ce_isSound.2.1 65 = .ok (.aload_n 0, 1) := by decide +kernel
theorem d_Ce_isSound_66 : decode m_Ce_isSound.2.1 66 = .ok (.invokestatic 90, 3) := by decide +kernel
theorem d_Ce_isSound_69 : decode m_Ce_isSound.2.1 69 = .ok (.ifCond .eq 17, 3) := by decide +kernel
theorem d_Ce_isSound_72 : decode m_Ce_isSound.2.1 72 = .ok (.goto 10, 3) := by decide +kernel
theorem d_Ce_isSound_75 : decode m_Ce_isSound.2.1 75 = .ok (.aload_n 0, 1) := by decide +kernel
theorem d_Ce_isSound_76 : decode m_Ce_isSound.2.1 76 = .ok (.invokestatic 93, 3) := by decide +kernel
theorem d_Ce_isSound_79 : decode m_Ce_isSound.2.1 79 = .ok (.ifCond .eq 7, 3) := by decide +kernel
theorem d_Ce_isSound_82 : decode m_Ce_isSound.2.1 82 = .ok (.iconst 1, 1) := by decide +kernel
theorem d_Ce_isSound_83 : decode m_Ce_isSound.2.1 83 = .ok (.goto 4, 3) := by decide +kernel
theorem d_Ce_isSound_86 : decode m_Ce_isSound.2.1 86 = .ok (.iconst 0, 1) := by decide +kernel
theorem d_Ce_isSound_87 : decode m_Ce_isSound.2.1 87 = .ok (.ireturn, 1) := by decide +kernel
theorem t_Ce_isSound_0 {d : Nat} {st : List Value} {a0 : Nat} {fs2 : List Value} {n4 : Int32} {w : qk_W} {nc ns : Nat} {Q : Option Value ⊕ Nat → qk_W → Nat → Nat → Prop}  (hw1 : wo w a0 8 fs2) (hf3 : fs2[1]? = some (.int n4)) (kt : n4 < (24 : Int32) → Ev d m_Ce_isSound 86 [some (.ref a0)] st w nc ns Q) (kf : ¬ (n4 < (24 : Int32)) → Ev d m_Ce_isSound 9 [some (.ref a0)] st w nc ns Q) : Ev d m_Ce_isSound 0 [some (.ref a0)] st w nc ns Q := by
  refine ev_aload_n d_Ce_isSound_0 rfl rfl ?_
  refine ev_getf d_Ce_isSound_1 fl_Ce_75 hw1.1 hw1.2 hf3 ?_
  refine ev_bipush 24 d_Ce_isSound_4 (by decide) ?_
  exact ev_icmp_lt 86 d_Ce_isSound_6 (by decide) kt kf
theorem t_Ce_isSound_9 {d : Nat} {st : List Value} {a0 : Nat} {fsb : List Value} {w : qk_W} {nc ns : Nat} {Q : Option Value ⊕ Nat → qk_W → Nat → Nat → Prop}  (hb : wo w a0 8 fsb) (h8 : (st.map fun v => Value.category v).sum ≤ 8) (k : Ev d m_Me_isSealed 0 [some (.ref a0)] [] w nc ns (fun r w1 nc1 ns1 => match r with | .inl v => Ev (d + 1) m_Ce_isSound 13 [some (.ref a0)] (v.toList ++ st) w1 nc1 ns1 Q | .inr x => Q (.inr x) w1 nc1 ns1)) : Ev (d + 1) m_Ce_isSound 9 [some (.ref a0)] st w nc ns Q := by
  refine ev_aload_n d_Ce_isSound_9 rfl rfl ?_
  exact ev_call (M' := m_Me_isSealed) (As := [.ref a0]) (st := st) d_Ce_isSound_10 i_Me_isSealed (fun h => absurd h (by decide +kernel)) cw_Ce_78 rfl rfl ⟨hb.1, 8, _, _, hb.2, rfl, rfl⟩ rfl (Nat.le_of_ble_eq_true rfl) h8 k
theorem t_Ce_isSound_13 {d : Nat} {st : List Value} {o0 : Option Value} {y0 : Int32} {w : qk_W} {nc ns : Nat} {Q : Option Value ⊕ Nat → qk_W → Nat → Nat → Prop}   (kt : y0 = 0 → Ev d m_Ce_isSound 86 [o0] st w nc ns Q) (kf : ¬ (y0 = 0) → Ev d m_Ce_isSound 16 [o0] st w nc ns Q) : Ev d m_Ce_isSound 13 [o0] (.int y0 :: st) w nc ns Q := by
  exact ev_if_eq 86 d_Ce_isSound_13 (by decide) kt kf
theorem t_Ce_isSound_16 {d : Nat} {st : List Value} {a0 : Nat} {fsb : List Value} {w : qk_W} {nc ns : Nat} {Q : Option Value ⊕ Nat → qk_W → Nat → Nat → Prop}  (hb : wo w a0 8 fsb) (h8 : (st.map fun v => Value.category v).sum ≤ 8) (k : Ev d m_Me_number 0 [some (.ref a0), some (.int 0), some (.int 1), none, none, none] [] w nc ns (fun r w1 nc1 ns1 => match r with | .inl v => Ev (d + 1) m_Ce_isSound 22 [some (.ref a0)] (v.toList ++ st) w1 nc1 ns1 Q | .inr x => Q (.inr x) w1 nc1 ns1)) : Ev (d + 1) m_Ce_isSound 16 [some (.ref a0)] st w nc ns Q := by
  refine ev_aload_n d_Ce_isSound_16 rfl rfl ?_
  refine ev_iconst 0 d_Ce_isSound_17 (by decide) ?_
  refine ev_iconst 1 d_Ce_isSound_18 (by decide) ?_
  exact ev_call (M' := m_Me_number) (As := [.ref a0, .int 0, .int 1]) (st := st) d_Ce_isSound_19 i_Me_number (fun h => absurd h (by decide +kernel)) cw_Ce_52 rfl rfl ⟨hb.1, 8, _, _, hb.2, rfl, rfl⟩ rfl (Nat.le_of_ble_eq_true rfl) h8 k
theorem t_Ce_isSound_22 {d : Nat} {st : List Value} {o0 : Option Value} {y0 : Int64} {w : qk_W} {nc ns : Nat} {Q : Option Value ⊕ Nat → qk_W → Nat → Nat → Prop}  (h8 : (st.map fun v => Value.category v).sum ≤ 8) (k : Ev d m_Q_isChannel 0 [some (.long y0), none] [] w nc ns (fun r w1 nc1 ns1 => match r with | .inl v => Ev (d + 1) m_Ce_isSound 25 [o0] (v.toList ++ st) w1 nc1 ns1 Q | .inr x => Q (.inr x) w1 nc1 ns1)) : Ev (d + 1) m_Ce_isSound 22 [o0] (.long y0 :: st) w nc ns Q := by
  exact ev_call (M' := m_Q_isChannel) (As := [.long y0]) (st := st) d_Ce_isSound_22 i_Q_isChannel (fun h => absurd h (by decide +kernel)) cw_Ce_82 rfl rfl trivial rfl (Nat.le_of_ble_eq_true rfl) h8 k
theorem t_Ce_isSound_25 {d : Nat} {st : List Value} {o0 : Option Value} {y0 : Int32} {w : qk_W} {nc ns : Nat} {Q : Option Value ⊕ Nat → qk_W → Nat → Nat → Prop}   (kt : y0 = 0 → Ev d m_Ce_isSound 86 [o0] st w nc ns Q) (kf : ¬ (y0 = 0) → Ev d m_Ce_isSound 28 [o0] st w nc ns Q) : Ev d m_Ce_isSound 25 [o0] (.int y0 :: st) w nc ns Q := by
  exact ev_if_eq 86 d_Ce_isSound_25 (by decide) kt kf
theorem t_Ce_isSound_28 {d : Nat} {st : List Value} {a0 : Nat} {fsb : List Value} {w : qk_W} {nc ns : Nat} {Q : Option Value ⊕ Nat → qk_W → Nat → Nat → Prop}  (hb : wo w a0 8 fsb) (h8 : (st.map fun v => Value.category v).sum ≤ 8) (k : Ev d m_Me_number 0 [some (.ref a0), some (.int 1), some (.int 1), none, none, none] [] w nc ns (fun r w1 nc1 ns1 => match r with | .inl v => Ev (d + 1) m_Ce_isSound 34 [some (.ref a0)] (v.toList ++ st) w1 nc1 ns1 Q | .inr x => Q (.inr x) w1 nc1 ns1)) : Ev (d + 1) m_Ce_isSound 28 [some (.ref a0)] st w nc ns Q := by
  refine ev_aload_n d_Ce_isSound_28 rfl rfl ?_
  refine ev_iconst 1 d_Ce_isSound_29 (by decide) ?_
  refine ev_iconst 1 d_Ce_isSound_30 (by decide) ?_
  exact ev_call (M' := m_Me_number) (As := [.ref a0, .int 1, .int 1]) (st := st) d_Ce_isSound_31 i_Me_number (fun h => absurd h (by decide +kernel)) cw_Ce_52 rfl rfl ⟨hb.1, 8, _, _, hb.2, rfl, rfl⟩ rfl (Nat.le_of_ble_eq_true rfl) h8 k
theorem t_Ce_isSound_34 {d : Nat} {st : List Value} {o0 : Option Value} {y0 : Int64} {w : qk_W} {nc ns : Nat} {Q : Option Value ⊕ Nat → qk_W → Nat → Nat → Prop}   (kt : 0 < (lg_cmp y0 100) → Ev d m_Ce_isSound 86 [o0] st w nc ns Q) (kf : ¬ (0 < (lg_cmp y0 100)) → Ev d m_Ce_isSound 41 [o0] st w nc ns Q) : Ev d m_Ce_isSound 34 [o0] (.long y0 :: st) w nc ns Q := by
  refine ev_ldc2 100 d_Ce_isSound_34 ll_Ce_86 ?_
  refine ev_lcmp d_Ce_isSound_37 ?_
  exact ev_if_gt 86 d_Ce_isSound_38 (by decide) kt kf
theorem t_Ce_isSound_41 {d : Nat} {st : List Value} {a0 : Nat} {fsb : List Value} {w : qk_W} {nc ns : Nat} {Q : Option Value ⊕ Nat → qk_W → Nat → Nat → Prop}  (hb : wo w a0 8 fsb) (h8 : (st.map fun v => Value.category v).sum ≤ 8) (k : Ev d m_Me_number 0 [some (.ref a0), some (.int 4), some (.int 4), none, none, none] [] w nc ns (fun r w1 nc1 ns1 => match r with | .inl v => Ev (d + 1) m_Ce_isSound 47 [some (.ref a0)] (v.toList ++ st) w1 nc1 ns1 Q | .inr x => Q (.inr x) w1 nc1 ns1)) : Ev (d + 1) m_Ce_isSound 41 [some (.ref a0)] st w nc ns Q := by
  refine ev_aload_n d_Ce_isSound_41 rfl rfl ?_
  refine ev_iconst 4 d_Ce_isSound_42 (by decide) ?_
  refine ev_iconst 4 d_Ce_isSound_43 (by decide) ?_
  exact ev_call (M' := m_Me_number) (As := [.ref a0, .int 4, .int 4]) (st := st) d_Ce_isSound_44 i_Me_number (fun h => absurd h (by decide +kernel)) cw_Ce_52 rfl rfl ⟨hb.1, 8, _, _, hb.2, rfl, rfl⟩ rfl (Nat.le_of_ble_eq_true rfl) h8 k
theorem t_Ce_isSound_47 {d : Nat} {st : List Value} {o0 : Option Value} {y0 : Int64} {w : qk_W} {nc ns : Nat} {Q : Option Value ⊕ Nat → qk_W → Nat → Nat → Prop}   (kt : 0 < (lg_cmp y0 32768) → Ev d m_Ce_isSound 86 [o0] st w nc ns Q) (kf : ¬ (0 < (lg_cmp y0 32768)) → Ev d m_Ce_isSound 54 [o0] st w nc ns Q) : Ev d m_Ce_isSound 47 [o0] (.long y0 :: st) w nc ns Q := by
  refine ev_ldc2 32768 d_Ce_isSound_47 ll_Ce_88 ?_
  refine ev_lcmp d_Ce_isSound_50 ?_
  exact ev_if_gt 86 d_Ce_isSound_51 (by decide) kt kf
theorem t_Ce_isSound_54 {d : Nat} {st : List Value} {a0 : Nat} {fsb : List Value} {w : qk_W} {nc ns : Nat} {Q : Option Value ⊕ Nat → qk_W → Nat → Nat → Prop}  (hb : wo w a0 8 fsb) (h8 : (st.map fun v => Value.category v).sum ≤ 8) (k : Ev d m_Me_number 0 [some (.ref a0), some (.int 2), some (.int 2), none, none, none] [] w nc ns (fun r w1 nc1 ns1 => match r with | .inl v => Ev (d + 1) m_Ce_isSound 60 [some (.ref a0)] (v.toList ++ st) w1 nc1 ns1 Q | .inr x => Q (.inr x) w1 nc1 ns1)) : Ev (d + 1) m_Ce_isSound 54 [some (.ref a0)] st w nc ns Q := by
  refine ev_aload_n d_Ce_isSound_54 rfl rfl ?_
  refine ev_iconst 2 d_Ce_isSound_55 (by decide) ?_
  refine ev_iconst 2 d_Ce_isSound_56 (by decide) ?_
  exact ev_call (M' := m_Me_number) (As := [.ref a0, .int 2, .int 2]) (st := st) d_Ce_isSound_57 i_Me_number (fun h => absurd h (by decide +kernel)) cw_Ce_52 rfl rfl ⟨hb.1, 8, _, _, hb.2, rfl, rfl⟩ rfl (Nat.le_of_ble_eq_true rfl) h8 k
theorem t_Ce_isSound_60 {d : Nat} {st : List Value} {o0 : Option Value} {y0 : Int64} {w : qk_W} {nc ns : Nat} {Q : Option Value ⊕ Nat → qk_W → Nat → Nat → Prop}   (kt : ¬ (lg_cmp y0 0) = 0 → Ev d m_Ce_isSound 75 [o0] st w nc ns Q) (kf : (lg_cmp y0 0) = 0 → Ev d m_Ce_isSound 65 [o0] st w nc ns Q) : Ev d m_Ce_isSound 60 [o0] (.long y0 :: st) w nc ns Q := by
  refine ev_lconst 0 d_Ce_isSound_60 (by decide) ?_
  refine ev_lcmp d_Ce_isSound_61 ?_
  exact ev_if_ne 75 d_Ce_isSound_62 (by decide) kt kf
theorem t_Ce_isSound_65 {d : Nat} {st : List Value} {a0 : Nat} {w : qk_W} {nc ns : Nat} {Q : Option Value ⊕ Nat → qk_W → Nat → Nat → Prop}  (h8 : (st.map fun v => Value.category v).sum ≤ 8) (k : Ev d m_Ce_isEmpty 0 [some (.ref a0)] [] w nc ns (fun r w1 nc1 ns1 => match r with | .inl v => Ev (d + 1) m_Ce_isSound 69 [some (.ref a0)] (v.toList ++ st) w1 nc1 ns1 Q | .inr x => Q (.inr x) w1 nc1 ns1)) : Ev (d + 1) m_Ce_isSound 65 [some (.ref a0)] st w nc ns Q := by
  refine ev_aload_n d_Ce_isSound_65 rfl rfl ?_
  exact ev_call (M' := m_Ce_isEmpty) (As := [.ref a0]) (st := st) d_Ce_isSound_66 i_Ce_isEmpty (fun h => absurd h (by decide +kernel)) cw_Ce_90 rfl rfl trivial rfl (Nat.le_of_ble_eq_true rfl) h8 k
theorem t_Ce_isSound_69 {d : Nat} {st : List Value} {o0 : Option Value} {y0 : Int32} {w : qk_W} {nc ns : Nat} {Q : Option Value ⊕ Nat → qk_W → Nat → Nat → Prop}   (kt : y0 = 0 → Ev d m_Ce_isSound 86 [o0] st w nc ns Q) (kf : ¬ (y0 = 0) → Ev d m_Ce_isSound 72 [o0] st w nc ns Q) : Ev d m_Ce_isSound 69 [o0] (.int y0 :: st) w nc ns Q := by
  exact ev_if_eq 86 d_Ce_isSound_69 (by decide) kt kf
theorem t_Ce_isSound_72 {d : Nat} {o0 : Option Value} {w : qk_W} {nc ns : Nat} {Q : Option Value ⊕ Nat → qk_W → Nat → Nat → Prop}   (hq : Q (.inl (some (.int 1))) w nc ns) : Ev d m_Ce_isSound 72 [o0] [] w nc ns Q := by
  refine ev_goto 82 d_Ce_isSound_72 (by decide) ?_
  refine ev_iconst 1 d_Ce_isSound_82 (by decide) ?_
  refine ev_goto 87 d_Ce_isSound_83 (by decide) ?_
  exact ev_iret d_Ce_isSound_87 rfl rfl hq
theorem t_Ce_isSound_75 {d : Nat} {st : List Value} {a0 : Nat} {w : qk_W} {nc ns : Nat} {Q : Option Value ⊕ Nat → qk_W → Nat → Nat → Prop}  (h8 : (st.map fun v => Value.category v).sum ≤ 8) (k : Ev d m_Ce_isFilled 0 [some (.ref a0), none, none, none, none, none, none] [] w nc ns (fun r w1 nc1 ns1 => match r with | .inl v => Ev (d + 1) m_Ce_isSound 79 [some (.ref a0)] (v.toList ++ st) w1 nc1 ns1 Q | .inr x => Q (.inr x) w1 nc1 ns1)) : Ev (d + 1) m_Ce_isSound 75 [some (.ref a0)] st w nc ns Q := by
  refine ev_aload_n d_Ce_isSound_75 rfl rfl ?_
  exact ev_call (M' := m_Ce_isFilled) (As := [.ref a0]) (st := st) d_Ce_isSound_76 i_Ce_isFilled (fun h => absurd h (by decide +kernel)) cw_Ce_93 rfl rfl trivial rfl (Nat.le_of_ble_eq_true rfl) h8 k
theorem t_Ce_isSound_79 {d : Nat} {st : List Value} {o0 : Option Value} {y0 : Int32} {w : qk_W} {nc ns : Nat} {Q : Option Value ⊕ Nat → qk_W → Nat → Nat → Prop}   (kt : y0 = 0 → Ev d m_Ce_isSound 86 [o0] st w nc ns Q) (kf : ¬ (y0 = 0) → Ev d m_Ce_isSound 82 [o0] st w nc ns Q) : Ev d m_Ce_isSound 79 [o0] (.int y0 :: st) w nc ns Q := by
  exact ev_if_eq 86 d_Ce_isSound_79 (by decide) kt kf
theorem t_Ce_isSound_82 {d : Nat} {o0 : Option Value} {w : qk_W} {nc ns : Nat} {Q : Option Value ⊕ Nat → qk_W → Nat → Nat → Prop}   (hq : Q (.inl (some (.int 1))) w nc ns) : Ev d m_Ce_isSound 82 [o0] [] w nc ns Q := by
  refine ev_iconst 1 d_Ce_isSound_82 (by decide) ?_
  refine ev_goto 87 d_Ce_isSound_83 (by decide) ?_
  exact ev_iret d_Ce_isSound_87 rfl rfl hq
theorem t_Ce_isSound_86 {d : Nat} {o0 : Option Value} {w : qk_W} {nc ns : Nat} {Q : Option Value ⊕ Nat → qk_W → Nat → Nat → Prop}   (hq : Q (.inl (some (.int 0))) w nc ns) : Ev d m_Ce_isSound 86 [o0] [] w nc ns Q := by
  refine ev_iconst 0 d_Ce_isSound_86 (by decide) ?_
  exact ev_iret d_Ce_isSound_87 rfl rfl hq
/-! Ce_isEmpty -/
theorem d_Ce_isEmpty_0 : decode m_Ce_isEmpty.2.1 0 = .ok (.aload_n 0, 1) := by decide +kernel
theorem d_Ce_isEmpty_1 : decode m_Ce_isEmpty.2.1 1 = .ok (.getfield 75, 3) := by decide +kernel
theorem d_Ce_isEmpty_4 : decode m_Ce_isEmpty.2.1 4 = .ok (.bipush 24, 2) := by decide +kernel
theorem d_Ce_isEmpty_6 : decode m_Ce_isEmpty.2.1 6 = .ok (.if_icmp .ne 54, 3) := by decide +kernel
theorem d_Ce_isEmpty_9 : decode m_Ce_isEmpty.2.1 9 = .ok (.aload_n 0, 1) := by decide +kernel
theorem d_Ce_isEmpty_10 : decode m_Ce_isEmpty.2.1 10 = .ok (.iconst 1, 1) := by decide +kernel
theorem d_Ce_isEmpty_11 : decode m_Ce_isEmpty.2.1 11 = .ok (.iconst 1, 1) := by decide +kernel
theorem d_Ce_isEmpty_12 : decode m_Ce_isEmpty.2.1 12 = .ok (.invokevirtual 52, 3) := by decide +kernel
theorem d_Ce_isEmpty_15 : decode m_Ce_isEmpty.2.1 15 = .ok (.lconst 0, 1) := by decide +kernel
theorem d_Ce_isEmpty_16 : decode m_Ce_isEmpty.2.1 16 = .ok (.lcmp, 1) := by decide +kernel
theorem d_Ce_isEmpty_17 : decode m_Ce_isEmpty.2.1 17 = .ok (.ifCond .ne 43, 3) := by decide +kernel
theorem d_Ce_isEmpty_20 : decode m_Ce_isEmpty.2.1 20 = .ok (.aload_n 0, 1) := by decide +kernel
theorem d_Ce_isEmpty_21 : decode m_Ce_isEmpty.2.1 21 = .ok (.bipush 8, 2) := by decide +kernel
theorem d_Ce_isEmpty_23 : decode m_Ce_isEmpty.2.1 23 = .ok (.iconst 4, 1) := by decide +kernel
theorem d_Ce_isEmpty_24 : decode m_Ce_isEmpty.2.1 24 = .ok (.invokevirtual 52, 3) := by decide +kernel
theorem d_Ce_isEmpty_27 : decode m_Ce_isEmpty.2.1 27 = .ok (.lconst 0, 1) := by decide +kernel
theorem d_Ce_isEmpty_28 : decode m_Ce_isEmpty.2.1 28 = .ok (.lcmp, 1) := by decide +kernel
theorem d_Ce_isEmpty_29 : decode m_Ce_isEmpty.2.1 29 = .ok (.ifCond .ne 31, 3) := by decide +kernel
theorem d_Ce_isEmpty_32 : decode m_Ce_isEmpty.2.1 32 = .ok (.aload_n 0, 1) := by decide +kernel
theorem d_Ce_isEmpty_33 : decode m_Ce_isEmpty.2.1 33 = .ok (.bipush 12, 2) := by decide +kernel
theorem d_Ce_isEmpty_35 : decode m_Ce_isEmpty.2.1 35 = .ok (.iconst 4, 1) := by decide +kernel
theorem d_Ce_isEmpty_36 : decode m_Ce_isEmpty.2.1 36 = .ok (.invokevirtual 52, 3) := by decide +kernel
theorem d_Ce_isEmpty_39 : decode m_Ce_isEmpty.2.1 39 = .ok (.lconst 0, 1) := by decide +kernel
theorem d_Ce_isEmpty_40 : decode m_Ce_isEmpty.2.1 40 = .ok (.lcmp, 1) := by decide +kernel
theorem d_Ce_isEmpty_41 : decode m_Ce_isEmpty.2.1 41 = .ok (.ifCond .ne 19, 3) := by decide +kernel
theorem d_Ce_isEmpty_44 : decode m_Ce_isEmpty.2.1 44 = .ok (.aload_n 0, 1) := by decide +kernel
theorem d_Ce_isEmpty_45 : decode m_Ce_isEmpty.2.1 45 = .ok (.bipush 16, 2) := by decide +kernel
theorem d_Ce_isEmpty_47 : decode m_Ce_isEmpty.2.1 47 = .ok (.iconst 4, 1) := by decide +kernel
theorem d_Ce_isEmpty_48 : decode m_Ce_isEmpty.2.1 48 = .ok (.invokevirtual 52, 3) := by decide +kernel
theorem d_Ce_isEmpty_51 : decode m_Ce_isEmpty.2.1 51 = .ok (.lconst 0, 1) := by decide +kernel
theorem d_Ce_isEmpty_52 : decode m_Ce_isEmpty.2.1 52 = .ok (.lcmp, 1) := by decide +kernel
theorem d_Ce_isEmpty_53 : decode m_Ce_isEmpty.2.1 53 = .ok (.ifCond .ne 7, 3) := by decide +kernel
theorem d_Ce_isEmpty_56 : decode m_Ce_isEmpty.2.1 56 = .ok (.iconst 1, 1) := by decide +kernel
theorem d_Ce_isEmpty_57 : decode m_Ce_isEmpty.2.1 57 = .ok (.goto 4, 3) := by decide +kernel
theorem d_Ce_isEmpty_60 : decode m_Ce_isEmpty.2.1 60 = .ok (.iconst 0, 1) := by decide +kernel
theorem d_Ce_isEmpty_61 : decode m_Ce_isEmpty.2.1 61 = .ok (.ireturn, 1) := by decide +kernel
theorem t_Ce_isEmpty_0 {d : Nat} {st : List Value} {a0 : Nat} {fs2 : List Value} {n4 : Int32} {w : qk_W} {nc ns : Nat} {Q : Option Value ⊕ Nat → qk_W → Nat → Nat → Prop}  (hw1 : wo w a0 8 fs2) (hf3 : fs2[1]? = some (.int n4)) (kt : ¬ n4 = (24 : Int32) → Ev d m_Ce_isEmpty 60 [some (.ref a0)] st w nc ns Q) (kf : n4 = (24 : Int32) → Ev d m_Ce_isEmpty 9 [some (.ref a0)] st w nc ns Q) : Ev d m_Ce_isEmpty 0 [some (.ref a0)] st w nc ns Q := by
  refine ev_aload_n d_Ce_isEmpty_0 rfl rfl ?_
  refine ev_getf d_Ce_isEmpty_1 fl_Ce_75 hw1.1 hw1.2 hf3 ?_
  refine ev_bipush 24 d_Ce_isEmpty_4 (by decide) ?_
  exact ev_icmp_ne 60 d_Ce_isEmpty_6 (by decide) kt kf
theorem t_Ce_isEmpty_9 {d : Nat} {st : List Value} {a0 : Nat} {fsb : List Value} {w : qk_W} {nc ns : Nat} {Q : Option Value ⊕ Nat → qk_W → Nat → Nat → Prop}  (hb : wo w a0 8 fsb) (h8 : (st.map fun v => Value.category v).sum ≤ 8) (k : Ev d m_Me_number 0 [some (.ref a0), some (.int 1), some (.int 1), none, none, none] [] w nc ns (fun r w1 nc1 ns1 => match r with | .inl v => Ev (d + 1) m_Ce_isEmpty 15 [some (.ref a0)] (v.toList ++ st) w1 nc1 ns1 Q | .inr x => Q (.inr x) w1 nc1 ns1)) : Ev (d + 1) m_Ce_isEmpty 9 [some (.ref a0)] st w nc ns Q := by
  refine ev_aload_n d_Ce_isEmpty_9 rfl rfl ?_
  refine ev_iconst 1 d_Ce_isEmpty_10 (by decide) ?_
  refine ev_iconst 1 d_Ce_isEmpty_11 (by decide) ?_
  exact ev_call (M' := m_Me_number) (As := [.ref a0, .int 1, .int 1]) (st := st) d_Ce_isEmpty_12 i_Me_number (fun h => absurd h (by decide +kernel)) cw_Ce_52 rfl rfl ⟨hb.1, 8, _, _, hb.2, rfl, rfl⟩ rfl (Nat.le_of_ble_eq_true rfl) h8 k
theorem t_Ce_isEmpty_15 {d : Nat} {st : List Value} {o0 : Option Value} {y0 : Int64} {w : qk_W} {nc ns : Nat} {Q : Option Value ⊕ Nat → qk_W → Nat → Nat → Prop}   (kt : ¬ (lg_cmp y0 0) = 0 → Ev d m_Ce_isEmpty 60 [o0] st w nc ns Q) (kf : (lg_cmp y0 0) = 0 → Ev d m_Ce_isEmpty 20 [o0] st w nc ns Q) : Ev d m_Ce_isEmpty 15 [o0] (.long y0 :: st) w nc ns Q := by
  refine ev_lconst 0 d_Ce_isEmpty_15 (by decide) ?_
  refine ev_lcmp d_Ce_isEmpty_16 ?_
  exact ev_if_ne 60 d_Ce_isEmpty_17 (by decide) kt kf
theorem t_Ce_isEmpty_20 {d : Nat} {st : List Value} {a0 : Nat} {fsb : List Value} {w : qk_W} {nc ns : Nat} {Q : Option Value ⊕ Nat → qk_W → Nat → Nat → Prop}  (hb : wo w a0 8 fsb) (h8 : (st.map fun v => Value.category v).sum ≤ 8) (k : Ev d m_Me_number 0 [some (.ref a0), some (.int 8), some (.int 4), none, none, none] [] w nc ns (fun r w1 nc1 ns1 => match r with | .inl v => Ev (d + 1) m_Ce_isEmpty 27 [some (.ref a0)] (v.toList ++ st) w1 nc1 ns1 Q | .inr x => Q (.inr x) w1 nc1 ns1)) : Ev (d + 1) m_Ce_isEmpty 20 [some (.ref a0)] st w nc ns Q := by
  refine ev_aload_n d_Ce_isEmpty_20 rfl rfl ?_
  refine ev_bipush 8 d_Ce_isEmpty_21 (by decide) ?_
  refine ev_iconst 4 d_Ce_isEmpty_23 (by decide) ?_
  exact ev_call (M' := m_Me_number) (As := [.ref a0, .int 8, .int 4]) (st := st) d_Ce_isEmpty_24 i_Me_number (fun h => absurd h (by decide +kernel)) cw_Ce_52 rfl rfl ⟨hb.1, 8, _, _, hb.2, rfl, rfl⟩ rfl (Nat.le_of_ble_eq_true rfl) h8 k
theorem t_Ce_isEmpty_27 {d : Nat} {st : List Value} {o0 : Option Value} {y0 : Int64} {w : qk_W} {nc ns : Nat} {Q : Option Value ⊕ Nat → qk_W → Nat → Nat → Prop}   (kt : ¬ (lg_cmp y0 0) = 0 → Ev d m_Ce_isEmpty 60 [o0] st w nc ns Q) (kf : (lg_cmp y0 0) = 0 → Ev d m_Ce_isEmpty 32 [o0] st w nc ns Q) : Ev d m_Ce_isEmpty 27 [o0] (.long y0 :: st) w nc ns Q := by
  refine ev_lconst 0 d_Ce_isEmpty_27 (by decide) ?_
  refine ev_lcmp d_Ce_isEmpty_28 ?_
  exact ev_if_ne 60 d_Ce_isEmpty_29 (by decide) kt kf
theorem t_Ce_isEmpty_32 {d : Nat} {st : List Value} {a0 : Nat} {fsb : List Value} {w : qk_W} {nc ns : Nat} {Q : Option Value ⊕ Nat → qk_W → Nat → Nat → Prop}  (hb : wo w a0 8 fsb) (h8 : (st.map fun v => Value.category v).sum ≤ 8) (k : Ev d m_Me_number 0 [some (.ref a0), some (.int 12), some (.int 4), none, none, none] [] w nc ns (fun r w1 nc1 ns1 => match r with | .inl v => Ev (d + 1) m_Ce_isEmpty 39 [some (.ref a0)] (v.toList ++ st) w1 nc1 ns1 Q | .inr x => Q (.inr x) w1 nc1 ns1)) : Ev (d + 1) m_Ce_isEmpty 32 [some (.ref a0)] st w nc ns Q := by
  refine ev_aload_n d_Ce_isEmpty_32 rfl rfl ?_
  refine ev_bipush 12 d_Ce_isEmpty_33 (by decide) ?_
  refine ev_iconst 4 d_Ce_isEmpty_35 (by decide) ?_
  exact ev_call (M' := m_Me_number) (As := [.ref a0, .int 12, .int 4]) (st := st) d_Ce_isEmpty_36 i_Me_number (fun h => absurd h (by decide +kernel)) cw_Ce_52 rfl rfl ⟨hb.1, 8, _, _, hb.2, rfl, rfl⟩ rfl (Nat.le_of_ble_eq_true rfl) h8 k
theorem t_Ce_isEmpty_39 {d : Nat} {st : List Value} {o0 : Option Value} {y0 : Int64} {w : qk_W} {nc ns : Nat} {Q : Option Value ⊕ Nat → qk_W → Nat → Nat → Prop}   (kt : ¬ (lg_cmp y0 0) = 0 → Ev d m_Ce_isEmpty 60 [o0] st w nc ns Q) (kf : (lg_cmp y0 0) = 0 → Ev d m_Ce_isEmpty 44 [o0] st w nc ns Q) : Ev d m_Ce_isEmpty 39 [o0] (.long y0 :: st) w nc ns Q := by
  refine ev_lconst 0 d_Ce_isEmpty_39 (by decide) ?_
  refine ev_lcmp d_Ce_isEmpty_40 ?_
  exact ev_if_ne 60 d_Ce_isEmpty_41 (by decide) kt kf
theorem t_Ce_isEmpty_44 {d : Nat} {st : List Value} {a0 : Nat} {fsb : List Value} {w : qk_W} {nc ns : Nat} {Q : Option Value ⊕ Nat → qk_W → Nat → Nat → Prop}  (hb : wo w a0 8 fsb) (h8 : (st.map fun v => Value.category v).sum ≤ 8) (k : Ev d m_Me_number 0 [some (.ref a0), some (.int 16), some (.int 4), none, none, none] [] w nc ns (fun r w1 nc1 ns1 => match r with | .inl v => Ev (d + 1) m_Ce_isEmpty 51 [some (.ref a0)] (v.toList ++ st) w1 nc1 ns1 Q | .inr x => Q (.inr x) w1 nc1 ns1)) : Ev (d + 1) m_Ce_isEmpty 44 [some (.ref a0)] st w nc ns Q := by
  refine ev_aload_n d_Ce_isEmpty_44 rfl rfl ?_
  refine ev_bipush 16 d_Ce_isEmpty_45 (by decide) ?_
  refine ev_iconst 4 d_Ce_isEmpty_47 (by decide) ?_
  exact ev_call (M' := m_Me_number) (As := [.ref a0, .int 16, .int 4]) (st := st) d_Ce_isEmpty_48 i_Me_number (fun h => absurd h (by decide +kernel)) cw_Ce_52 rfl rfl ⟨hb.1, 8, _, _, hb.2, rfl, rfl⟩ rfl (Nat.le_of_ble_eq_true rfl) h8 k
theorem t_Ce_isEmpty_51 {d : Nat} {st : List Value} {o0 : Option Value} {y0 : Int64} {w : qk_W} {nc ns : Nat} {Q : Option Value ⊕ Nat → qk_W → Nat → Nat → Prop}   (kt : ¬ (lg_cmp y0 0) = 0 → Ev d m_Ce_isEmpty 60 [o0] st w nc ns Q) (kf : (lg_cmp y0 0) = 0 → Ev d m_Ce_isEmpty 56 [o0] st w nc ns Q) : Ev d m_Ce_isEmpty 51 [o0] (.long y0 :: st) w nc ns Q := by
  refine ev_lconst 0 d_Ce_isEmpty_51 (by decide) ?_
  refine ev_lcmp d_Ce_isEmpty_52 ?_
  exact ev_if_ne 60 d_Ce_isEmpty_53 (by decide) kt kf
theorem t_Ce_isEmpty_56 {d : Nat} {o0 : Option Value} {w : qk_W} {nc ns : Nat} {Q : Option Value ⊕ Nat → qk_W → Nat → Nat → Prop}   (hq : Q (.inl (some (.int 1))) w nc ns) : Ev d m_Ce_isEmpty 56 [o0] [] w nc ns Q := by
  refine ev_iconst 1 d_Ce_isEmpty_56 (by decide) ?_
  refine ev_goto 61 d_Ce_isEmpty_57 (by decide) ?_
  exact ev_iret d_Ce_isEmpty_61 rfl rfl hq
theorem t_Ce_isEmpty_60 {d : Nat} {o0 : Option Value} {w : qk_W} {nc ns : Nat} {Q : Option Value ⊕ Nat → qk_W → Nat → Nat → Prop}   (hq : Q (.inl (some (.int 0))) w nc ns) : Ev d m_Ce_isEmpty 60 [o0] [] w nc ns Q := by
  refine ev_iconst 0 d_Ce_isEmpty_60 (by decide) ?_
  exact ev_iret d_Ce_isEmpty_61 rfl rfl hq
/-! Ce_isFilled -/
theorem nl_Ce_96 : qk_nl "QuakeLink$Centre" 96 9 [.int 0, .null, .int 0, .int 0, .long 0, .int 0, .int 0, .int 0, .int 0] := ⟨_, rfl, by decide, (lw_i3 _ (List.mem_of_getElem? (i := 159) rfl)), rfl, rfl⟩
theorem cw_Ce_98 : qk_cw "QuakeLink$Centre" m_De_init.1 (.invokespecial 98) := ⟨rfl, Or.inl (lw_i3 _ (List.mem_of_getElem? (i := 161) rfl)), (lw_i3 _ (List.mem_of_getElem? (i := 162) rfl))⟩
theorem cw_Ce_101 : qk_cw "QuakeLink$Centre" m_De_advance.1 (.invokevirtual 101) := ⟨(lw_i3 _ (List.mem_of_getElem? (i := 196) rfl)), (lw_i3 _ (List.mem_of_getElem? (i := 197) rfl)), (lw_i3 _ (List.mem_of_getElem? (i := 198) rfl))⟩
theorem cw_Ce_104 : qk_cw "QuakeLink$Centre" m_De_isAtEnd.1 (.invokevirtual 104) := ⟨(lw_i3 _ (List.mem_of_getElem? (i := 213) rfl)), (lw_i3 _ (List.mem_of_getElem? (i := 214) rfl)), (lw_i3 _ (List.mem_of_getElem? (i := 215) rfl))⟩
theorem fl_Ce_107 : qk_fl "QuakeLink$Centre" 107 9 0 := ⟨_, rfl, by decide, rfl, (lw_i3 _ (List.mem_of_getElem? (i := 168) rfl))⟩
theorem d_Ce_isFilled_0 : decode m_Ce_isFilled.2.1 0 = .ok (.aload_n 0, 1) := by decide +kernel
theorem d_Ce_isFilled_1 : decode m_Ce_isFilled.2.1 1 = .ok (.iconst 2, 1) := by decide +kernel
theorem d_Ce_isFilled_2 : decode m_Ce_isFilled.2.1 2 = .ok (.iconst 2, 1) := by decide +kernel
theorem d_Ce_isFilled_3 : decode m_Ce_isFilled.2.1 3 = .ok (.invokevirtual 52, 3) := by decide +kernel
theorem d_Ce_isFilled_6 : decode m_Ce_isFilled.2.1 6 = .ok (.lstore_n 1, 1) := by decide +kernel
theorem d_Ce_isFilled_7 : decode m_Ce_isFilled.2.1 7 = .ok (.aload_n 0, 1) := by decide +kernel
theorem d_Ce_isFilled_8 : decode m_Ce_isFilled.2.1 8 = .ok (.bipush 8, 2) := by decide +kernel
theorem d_Ce_isFilled_10 : decode m_Ce_isFilled.2.1 10 = .ok (.iconst 4, 1) := by decide +kernel
theorem d_Ce_isFilled_11 : decode m_Ce_isFilled.2.1 11 = .ok (.invokevirtual 52, 3) := by decide +kernel
theorem d_Ce_isFilled_14 : decode m_Ce_isFilled.2.1 14 = .ok (.lload_n 1, 1) := by decide +kernel
theorem d_Ce_isFilled_15 : decode m_Ce_isFilled.2.1 15 = .ok (.ladd, 1) := by decide +kernel
theorem d_Ce_isFilled_16 : decode m_Ce_isFilled.2.1 16 = .ok (.lstore_n 3, 1) := by decide +kernel
theorem d_Ce_isFilled_17 : decode m_Ce_isFilled.2.1 17 = .ok (.lload_n 3, 1) := by decide +kernel
theorem d_Ce_isFilled_18 : decode m_Ce_isFilled.2.1 18 = .ok (.ldc2_w 88, 3) := by decide +kernel
theorem d_Ce_isFilled_21 : decode m_Ce_isFilled.2.1 21 = .ok (.lcmp, 1) := by decide +kernel
theorem d_Ce_isFilled_22 : decode m_Ce_isFilled.2.1 22 = .ok (.ifCond .gt 14, 3) := by decide +kernel
theorem d_Ce_isFilled_25 : decode m_Ce_isFilled.2.1 25 = .ok (.aload_n 0, 1) := by decide +kernel
theorem d_Ce_isFilled_26 : decode m_Ce_isFilled.2.1 26 = .ok (.iconst 4, 1) := by decide +kernel
theorem d_Ce_isFilled_27 : decode m_Ce_isFilled.2.1 27 = .ok (.iconst 4, 1) := by decide +kernel
theorem d_Ce_isFilled_28 : decode m_Ce_isFilled.2.1 28 = .ok (.invokevirtual 52, 3) := by decide +kernel
theorem d_Ce_isFilled_31 : decode m_Ce_isFilled.2.1 31 = .ok (.lload_n 3, 1) := by decide +kernel
theorem d_Ce_isFilled_32 : decode m_Ce_isFilled.2.1 32 = .ok (.lcmp, 1) := by decide +kernel
theorem d_Ce_isFilled_33 : decode m_Ce_isFilled.2.1 33 = .ok (.ifCond .lt 5, 3) := by decide +kernel
theorem d_Ce_isFilled_36 : decode m_Ce_isFilled.2.1 36 = .ok (.iconst 0, 1) := by decide +kernel
theorem d_Ce_isFilled_37 : decode m_Ce_isFilled.2.1 37 = .ok (.ireturn, 1) := by decide +kernel
theorem d_Ce_isFilled_38 : decode m_Ce_isFilled.2.1 38 = .ok (.new 96, 3) := by decide +kernel
theorem d_Ce_isFilled_41 : decode m_Ce_isFilled.2.1 41 = .ok (.dup, 1) := by decide +kernel
theorem d_Ce_isFilled_42 : decode m_Ce_isFilled.2.1 42 = .ok (.aload_n 0, 1) := by decide +kernel
theorem d_Ce_isFilled_43 : decode m_Ce_isFilled.2.1 43 = .ok (.invokespecial 98, 3) := by decide +kernel
theorem d_Ce_isFilled_46 : decode m_Ce_isFilled.2.1 46 = .ok (.astore 5, 2) := by decide +kernel
theorem d_Ce_isFilled_48 : decode m_Ce_isFilled.2.1 48 = .ok (.iconst 1, 1) := by decide +kernel
theorem d_Ce_isFilled_49 : decode m_Ce_isFilled.2.1 49 = .ok (.istore 6, 2) := by decide +kernel
theorem d_Ce_isFilled_51 : decode m_Ce_isFilled.2.1 51 = .ok (.iload 6, 2) := by decide +kernel
theorem d_Ce_isFilled_53 : decode m_Ce_isFilled.2.1 53 = .ok (.i2l, 1) := by decide +kernel
theorem d_Ce_isFilled_54 : decode m_Ce_isFilled.2.1 54 = .ok (.lload_n 1, 1) := by decide +kernel
theorem d_Ce_isFilled_55 : decode m_Ce_isFilled.2.1 55 = .ok (.lcmp, 1) := by decide +kernel
theorem d_Ce_isFilled_56 : decode m_Ce_isFilled.2.1 56 = .ok (.ifCond .ge 19, 3) := by decide +kernel
theorem d_Ce_isFilled_59 : decode m_Ce_isFilled.2.1 59 = .ok (.aload 5, 2) := by decide +kernel
theorem d_Ce_isFilled_61 : decode m_Ce_isFilled.2.1 61 = .ok (.invokevirtual 101, 3) := by decide +kernel
theorem d_Ce_isFilled_64 : decode m_Ce_isFilled.2.1 64 = .ok (.ifCond .ne 5, 3) := by decide +kernel
theorem d_Ce_isFilled_67 : decode m_Ce_isFilled.2.1 67 = .ok (.iconst 0, 1) := by decide +kernel
theorem d_Ce_isFilled_68 : decode m_Ce_isFilled.2.1 68 = .ok (.ireturn, 1) := by decide +kernel
theorem d_Ce_isFilled_69 : decode m_Ce_isFilled.2.1 69 = .ok (.iinc 6 1, 3) := by decide +kernel
theorem d_Ce_isFilled_72 : decode m_Ce_isFilled.2.1 72 = .ok (.goto (-21), 3) := by decide +kernel
theorem d_Ce_isFilled_75 : decode m_Ce_isFilled.2.1 75 = .ok (.aload 5, 2) := by decide +kernel
theorem d_Ce_isFilled_77 : decode m_Ce_isFilled.2.1 77 = .ok (.invokevirtual 104, 3) := by decide +kernel
theorem d_Ce_isFilled_80 : decode m_Ce_isFilled.2.1 80 = .ok (.ifCond .eq 21, 3) := by decide +kernel
theorem d_Ce_isFilled_83 : decode m_Ce_isFilled.2.1 83 = .ok (.aload 5, 2) := by decide +kernel
theorem d_Ce_isFilled_85 : decode m_Ce_isFilled.2.1 85 = .ok (.getfield 107, 3) := by decide +kernel
theorem d_Ce_isFilled_88 : decode m_Ce_isFilled.2.1 88 = .ok (.aload_n 0, 1) := by decide +kernel
theorem d_Ce_isFilled_89 : decode m_Ce_isFilled.2.1 89 = .ok (.bipush 16, 2) := by decide +kernel
theorem d_Ce_isFilled_91 : decode m_Ce_isFilled.2.1 91 = .ok (.invokevirtual 56, 3) := by decide +kernel
theorem d_Ce_isFilled_94 : decode m_Ce_isFilled.2.1 94 = .ok (.if_icmp .ne 7, 3) := by decide +kernel
theorem d_Ce_isFilled_97 : decode m_Ce_isFilled.2.1 97 = .ok (.iconst 1, 1) := by decide +kernel
theorem d_Ce_isFilled_98 : decode m_Ce_isFilled.2.1 98 = .ok (.goto 4, 3) := by decide +kernel
theorem d_Ce_isFilled_101 : decode m_Ce_isFilled.2.1 101 = .ok (.iconst 0, 1) := by decide +kernel
theorem d_Ce_isFilled_102 : decode m_Ce_isFilled.2.1 102 = .ok (.ireturn, 1) := by decide +kernel
theorem t_Ce_isFilled_0 {d : Nat} {st : List Value} {a0 : Nat} {o1 : Option Value} {o2 : Option Value} {o3 : Option Value} {o4 : Option Value} {o5 : Option Value} {o6 : Option Value} {fsb : List Value} {w : qk_W} {nc ns : Nat} {Q : Option Value ⊕ Nat → qk_W → Nat → Nat → Prop}  (hb : wo w a0 8 fsb) (h8 : (st.map fun v => Value.category v).sum ≤ 8) (k : Ev d m_Me_number 0 [some (.ref a0), some (.int 2), some (.int 2), none, none, none] [] w nc ns (fun r w1 nc1 ns1 => match r with | .inl v => Ev (d + 1) m_Ce_isFilled 6 [some (.ref a0), o1, o2, o3, o4, o5, o6] (v.toList ++ st) w1 nc1 ns1 Q | .inr x => Q (.inr x) w1 nc1 ns1)) : Ev (d + 1) m_Ce_isFilled 0 [some (.ref a0), o1, o2, o3, o4, o5, o6] st w nc ns Q := by
  refine ev_aload_n d_Ce_isFilled_0 rfl rfl ?_
  refine ev_iconst 2 d_Ce_isFilled_1 (by decide) ?_
  refine ev_iconst 2 d_Ce_isFilled_2 (by decide) ?_
  exact ev_call (M' := m_Me_number) (As := [.ref a0, .int 2, .int 2]) (st := st) d_Ce_isFilled_3 i_Me_number (fun h => absurd h (by decide +kernel)) cw_Ce_52 rfl rfl ⟨hb.1, 8, _, _, hb.2, rfl, rfl⟩ rfl (Nat.le_of_ble_eq_true rfl) h8 k
theorem t_Ce_isFilled_6 {d : Nat} {st : List Value} {a0 : Nat} {o1 : Option Value} {o2 : Option Value} {o3 : Option Value} {o4 : Option Value} {o5 : Option Value} {o6 : Option Value} {y0 : Int64} {fsb : List Value} {w : qk_W} {nc ns : Nat} {Q : Option Value ⊕ Nat → qk_W → Nat → Nat → Prop}  (hc1 : qk_c2 [some (.ref a0), o1, o2, o3, o4, o5, o6] 1 = true) (hb : wo w a0 8 fsb) (h8 : (st.map fun v => Value.category v).sum ≤ 8) (k : Ev d m_Me_number 0 [some (.ref a0), some (.int 8), some (.int 4), none, none, none] [] w nc ns (fun r w1 nc1 ns1 => match r with | .inl v => Ev (d + 1) m_Ce_isFilled 14 [some (.ref a0), some (.long y0), none, o3, o4, o5, o6] (v.toList ++ st) w1 nc1 ns1 Q | .inr x => Q (.inr x) w1 nc1 ns1)) : Ev (d + 1) m_Ce_isFilled 6 [some (.ref a0), o1, o2, o3, o4, o5, o6] (.long y0 :: st) w nc ns Q := by
  refine ev_lstore_n d_Ce_isFilled_6 (by decide) hc1 ?_
  refine ev_aload_n d_Ce_isFilled_7 rfl rfl ?_
  refine ev_bipush 8 d_Ce_isFilled_8 (by decide) ?_
  refine ev_iconst 4 d_Ce_isFilled_10 (by decide) ?_
  exact ev_call (M' := m_Me_number) (As := [.ref a0, .int 8, .int 4]) (st := st) d_Ce_isFilled_11 i_Me_number (fun h => absurd h (by decide +kernel)) cw_Ce_52 rfl rfl ⟨hb.1, 8, _, _, hb.2, rfl, rfl⟩ rfl (Nat.le_of_ble_eq_true rfl) h8 k
theorem t_Ce_isFilled_14 {d : Nat} {st : List Value} {o0 : Option Value} {x1 : Int64} {o2 : Option Value} {o3 : Option Value} {o4 : Option Value} {o5 : Option Value} {o6 : Option Value} {y0 : Int64} {w : qk_W} {nc ns : Nat} {Q : Option Value ⊕ Nat → qk_W → Nat → Nat → Prop}  (hc1 : qk_c2 [o0, some (.long x1), o2, o3, o4, o5, o6] 3 = true) (kt : 0 < (lg_cmp (y0 + x1) 32768) → Ev d m_Ce_isFilled 36 [o0, some (.long x1), o2, some (.long (y0 + x1)), none, o5, o6] st w nc ns Q) (kf : ¬ (0 < (lg_cmp (y0 + x1) 32768)) → Ev d m_Ce_isFilled 25 [o0, some (.long x1), o2, some (.long (y0 + x1)), none, o5, o6] st w nc ns Q) : Ev d m_Ce_isFilled 14 [o0, some (.long x1), o2, o3, o4, o5, o6] (.long y0 :: st) w nc ns Q := by
  refine ev_lload_n d_Ce_isFilled_14 rfl ?_
  refine ev_ladd d_Ce_isFilled_15 ?_
  refine ev_lstore_n d_Ce_isFilled_16 (by decide) hc1 ?_
  refine ev_lload_n d_Ce_isFilled_17 rfl ?_
  refine ev_ldc2 32768 d_Ce_isFilled_18 ll_Ce_88 ?_
  refine ev_lcmp d_Ce_isFilled_21 ?_
  exact ev_if_gt 36 d_Ce_isFilled_22 (by decide) kt kf
theorem t_Ce_isFilled_25 {d : Nat} {st : List Value} {a0 : Nat} {o1 : Option Value} {o2 : Option Value} {o3 : Option Value} {o4 : Option Value} {o5 : Option Value} {o6 : Option Value} {fsb : List Value} {w : qk_W} {nc ns : Nat} {Q : Option Value ⊕ Nat → qk_W → Nat → Nat → Prop}  (hb : wo w a0 8 fsb) (h8 : (st.map fun v => Value.category v).sum ≤ 8) (k : Ev d m_Me_number 0 [some (.ref a0), some (.int 4), some (.int 4), none, none, none] [] w nc ns (fun r w1 nc1 ns1 => match r with | .inl v => Ev (d + 1) m_Ce_isFilled 31 [some (.ref a0), o1, o2, o3, o4, o5, o6] (v.toList ++ st) w1 nc1 ns1 Q | .inr x => Q (.inr x) w1 nc1 ns1)) : Ev (d + 1) m_Ce_isFilled 25 [some (.ref a0), o1, o2, o3, o4, o5, o6] st w nc ns Q := by
  refine ev_aload_n d_Ce_isFilled_25 rfl rfl ?_
  refine ev_iconst 4 d_Ce_isFilled_26 (by decide) ?_
  refine ev_iconst 4 d_Ce_isFilled_27 (by decide) ?_
  exact ev_call (M' := m_Me_number) (As := [.ref a0, .int 4, .int 4]) (st := st) d_Ce_isFilled_28 i_Me_number (fun h => absurd h (by decide +kernel)) cw_Ce_52 rfl rfl ⟨hb.1, 8, _, _, hb.2, rfl, rfl⟩ rfl (Nat.le_of_ble_eq_true rfl) h8 k
theorem t_Ce_isFilled_31 {d : Nat} {st : List Value} {o0 : Option Value} {o1 : Option Value} {o2 : Option Value} {x3 : Int64} {o4 : Option Value} {o5 : Option Value} {o6 : Option Value} {y0 : Int64} {w : qk_W} {nc ns : Nat} {Q : Option Value ⊕ Nat → qk_W → Nat → Nat → Prop}   (kt : (lg_cmp y0 x3) < 0 → Ev d m_Ce_isFilled 38 [o0, o1, o2, some (.long x3), o4, o5, o6] st w nc ns Q) (kf : ¬ ((lg_cmp y0 x3) < 0) → Ev d m_Ce_isFilled 36 [o0, o1, o2, some (.long x3), o4, o5, o6] st w nc ns Q) : Ev d m_Ce_isFilled 31 [o0, o1, o2, some (.long x3), o4, o5, o6] (.long y0 :: st) w nc ns Q := by
  refine ev_lload_n d_Ce_isFilled_31 rfl ?_
  refine ev_lcmp d_Ce_isFilled_32 ?_
  exact ev_if_lt 38 d_Ce_isFilled_33 (by decide) kt kf
theorem t_Ce_isFilled_36 {d : Nat} {o0 : Option Value} {o1 : Option Value} {o2 : Option Value} {o3 : Option Value} {o4 : Option Value} {o5 : Option Value} {o6 : Option Value} {w : qk_W} {nc ns : Nat} {Q : Option Value ⊕ Nat → qk_W → Nat → Nat → Prop}   (hq : Q (.inl (some (.int 0))) w nc ns) : Ev d m_Ce_isFilled 36 [o0, o1, o2, o3, o4, o5, o6] [] w nc ns Q := by
  refine ev_iconst 0 d_Ce_isFilled_36 (by decide) ?_
  exact ev_iret d_Ce_isFilled_37 rfl rfl hq
theorem t_Ce_isFilled_38 {d : Nat} {st : List Value} {o0 : Option Value} {o1 : Option Value} {o2 : Option Value} {o3 : Option Value} {o4 : Option Value} {o5 : Option Value} {o6 : Option Value} {w : qk_W} {nc ns : Nat} {Q : Option Value ⊕ Nat → qk_W → Nat → Nat → Prop}  (v : Nat) (hv : 16 ≤ v) (hn : w v = none) (k : Ev d m_Ce_isFilled 41 [o0, o1, o2, o3, o4, o5, o6] (.ref v :: st) (qk_set w v (.inr (9, [.int 0, .null, .int 0, .int 0, .long 0, .int 0, .int 0, .int 0, .int 0]))) (nc + 1) (ns + 9) Q) : Ev d m_Ce_isFilled 38 [o0, o1, o2, o3, o4, o5, o6] st w nc ns Q := by
  exact ev_new v d_Ce_isFilled_38 nl_Ce_96 hv hn k
theorem t_Ce_isFilled_41 {d : Nat} {st : List Value} {a0 : Nat} {o1 : Option Value} {o2 : Option Value} {o3 : Option Value} {o4 : Option Value} {o5 : Option Value} {o6 : Option Value} {b0 : Nat} {w : qk_W} {nc ns : Nat} {Q : Option Value ⊕ Nat → qk_W → Nat → Nat → Prop}  (h8 : ((.ref b0 :: st).map fun v => Value.category v).sum ≤ 8) (k : Ev d m_De_init 0 [some (.ref b0), some (.ref a0)] [] w nc ns (fun r w1 nc1 ns1 => match r with | .inl v => Ev (d + 1) m_Ce_isFilled 46 [some (.ref a0), o1, o2, o3, o4, o5, o6] (v.toList ++ (.ref b0 :: st)) w1 nc1 ns1 Q | .inr x => Q (.inr x) w1 nc1 ns1)) : Ev (d + 1) m_Ce_isFilled 41 [some (.ref a0), o1, o2, o3, o4, o5, o6] (.ref b0 :: st) w nc ns Q := by
  refine ev_dup d_Ce_isFilled_41 rfl ?_
  refine ev_aload_n d_Ce_isFilled_42 rfl rfl ?_
  exact ev_call (M' := m_De_init) (As := [.ref b0, .ref a0]) (st := (.ref b0 :: st)) d_Ce_isFilled_43 i_De_init ii_De_init cw_Ce_98 rfl rfl trivial rfl (Nat.le_of_ble_eq_true rfl) h8 k
theorem t_Ce_isFilled_46 {d : Nat} {st : List Value} {o0 : Option Value} {o1 : Option Value} {o2 : Option Value} {o3 : Option Value} {o4 : Option Value} {o5 : Option Value} {o6 : Option Value} {s0 : Value} {w : qk_W} {nc ns : Nat} {Q : Option Value ⊕ Nat → qk_W → Nat → Nat → Prop} (hs0 : qk_isr s0 = true) (hc1 : qk_c2 [o0, o1, o2, o3, o4, o5, o6] 5 = true) (hc2 : qk_c2 [o0, o1, o2, o3, o4, some s0, o6] 6 = true) (k : Ev d m_Ce_isFilled 51 [o0, o1, o2, o3, o4, some s0, some (.int 1)] st w nc ns Q) : Ev d m_Ce_isFilled 46 [o0, o1, o2, o3, o4, o5, o6] (s0 :: st) w nc ns Q := by
  refine ev_astore d_Ce_isFilled_46 hs0 (by decide) hc1 ?_
  refine ev_iconst 1 d_Ce_isFilled_48 (by decide) ?_
  refine ev_istore d_Ce_isFilled_49 (by decide) hc2 ?_
  exact k
theorem t_Ce_isFilled_51 {d : Nat} {st : List Value} {o0 : Option Value} {x1 : Int64} {o2 : Option Value} {o3 : Option Value} {o4 : Option Value} {o5 : Option Value} {x6 : Int32} {w : qk_W} {nc ns : Nat} {Q : Option Value ⊕ Nat → qk_W → Nat → Nat → Prop}   (kt : 0 ≤ (lg_cmp (Int32.toInt64 x6) x1) → Ev d m_Ce_isFilled 75 [o0, some (.long x1), o2, o3, o4, o5, some (.int x6)] st w nc ns Q) (kf : ¬ (0 ≤ (lg_cmp (Int32.toInt64 x6) x1)) → Ev d m_Ce_isFilled 59 [o0, some (.long x1), o2, o3, o4, o5, some (.int x6)] st w nc ns Q) : Ev d m_Ce_isFilled 51 [o0, some (.long x1), o2, o3, o4, o5, some (.int x6)] st w nc ns Q := by
  refine ev_iload d_Ce_isFilled_51 rfl ?_
  refine ev_i2l d_Ce_isFilled_53 ?_
  refine ev_lload_n d_Ce_isFilled_54 rfl ?_
  refine ev_lcmp d_Ce_isFilled_55 ?_
  exact ev_if_ge 75 d_Ce_isFilled_56 (by decide) kt kf
theorem t_Ce_isFilled_59 {d : Nat} {st : List Value} {o0 : Option Value} {o1 : Option Value} {o2 : Option Value} {o3 : Option Value} {o4 : Option Value} {a5 : Nat} {o6 : Option Value} {fsb : List Value} {w : qk_W} {nc ns : Nat} {Q : Option Value ⊕ Nat → qk_W → Nat → Nat → Prop}  (hb : wo w a5 9 fsb) (h8 : (st.map fun v => Value.category v).sum ≤ 8) (k : Ev d m_De_advance 0 [some (.ref a5), none] [] w nc ns (fun r w1 nc1 ns1 => match r with | .inl v => Ev (d + 1) m_Ce_isFilled 64 [o0, o1, o2, o3, o4, some (.ref a5), o6] (v.toList ++ st) w1 nc1 ns1 Q | .inr x => Q (.inr x) w1 nc1 ns1)) : Ev (d + 1) m_Ce_isFilled 59 [o0, o1, o2, o3, o4, some (.ref a5), o6] st w nc ns Q := by
  refine ev_aload d_Ce_isFilled_59 rfl rfl ?_
  exact ev_call (M' := m_De_advance) (As := [.ref a5]) (st := st) d_Ce_isFilled_61 i_De_advance (fun h => absurd h (by decide +kernel)) cw_Ce_101 rfl rfl ⟨hb.1, 9, _, _, hb.2, rfl, rfl⟩ rfl (Nat.le_of_ble_eq_true rfl) h8 k
theorem t_Ce_isFilled_64 {d : Nat} {st : List Value} {o0 : Option Value} {o1 : Option Value} {o2 : Option Value} {o3 : Option Value} {o4 : Option Value} {o5 : Option Value} {o6 : Option Value} {y0 : Int32} {w : qk_W} {nc ns : Nat} {Q : Option Value ⊕ Nat → qk_W → Nat → Nat → Prop}   (kt : ¬ y0 = 0 → Ev d m_Ce_isFilled 69 [o0, o1, o2, o3, o4, o5, o6] st w nc ns Q) (kf : y0 = 0 → Ev d m_Ce_isFilled 67 [o0, o1, o2, o3, o4, o5, o6] st w nc ns Q) : Ev d m_Ce_isFilled 64 [o0, o1, o2, o3, o4, o5, o6] (.int y0 :: st) w nc ns Q := by
  exact ev_if_ne 69 d_Ce_isFilled_64 (by decide) kt kf
theorem t_Ce_isFilled_67 {d : Nat} {o0 : Option Value} {o1 : Option Value} {o2 : Option Value} {o3 : Option Value} {o4 : Option Value} {o5 : Option Value} {o6 : Option Value} {w : qk_W} {nc ns : Nat} {Q : Option Value ⊕ Nat → qk_W → Nat → Nat → Prop}   (hq : Q (.inl (some (.int 0))) w nc ns) : Ev d m_Ce_isFilled 67 [o0, o1, o2, o3, o4, o5, o6] [] w nc ns Q := by
  refine ev_iconst 0 d_Ce_isFilled_67 (by decide) ?_
  exact ev_iret d_Ce_isFilled_68 rfl rfl hq
theorem t_Ce_isFilled_69 {d : Nat} {st : List Value} {o0 : Option Value} {o1 : Option Value} {o2 : Option Value} {o3 : Option Value} {o4 : Option Value} {o5 : Option Value} {x6 : Int32} {w : qk_W} {nc ns : Nat} {Q : Option Value ⊕ Nat → qk_W → Nat → Nat → Prop}  (hc1 : qk_c2 [o0, o1, o2, o3, o4, o5, some (.int x6)] 6 = true) (k : Ev d m_Ce_isFilled 51 [o0, o1, o2, o3, o4, o5, some (.int (x6 + 1))] st w nc ns Q) : Ev d m_Ce_isFilled 69 [o0, o1, o2, o3, o4, o5, some (.int x6)] st w nc ns Q := by
  refine ev_iinc 1 d_Ce_isFilled_69 (by decide) rfl (by decide) hc1 ?_
  refine ev_goto 51 d_Ce_isFilled_72 (by decide) ?_
  exact k
theorem t_Ce_isFilled_75 {d : Nat} {st : List Value} {o0 : Option Value} {o1 : Option Value} {o2 : Option Value} {o3 : Option Value} {o4 : Option Value} {a5 : Nat} {o6 : Option Value} {fsb : List Value} {w : qk_W} {nc ns : Nat} {Q : Option Value ⊕ Nat → qk_W → Nat → Nat → Prop}  (hb : wo w a5 9 fsb) (h8 : (st.map fun v => Value.category v).sum ≤ 8) (k : Ev d m_De_isAtEnd 0 [some (.ref a5)] [] w nc ns (fun r w1 nc1 ns1 => match r with | .inl v => Ev (d + 1) m_Ce_isFilled 80 [o0, o1, o2, o3, o4, some (.ref a5), o6] (v.toList ++ st) w1 nc1 ns1 Q | .inr x => Q (.inr x) w1 nc1 ns1)) : Ev (d + 1) m_Ce_isFilled 75 [o0, o1, o2, o3, o4, some (.ref a5), o6] st w nc ns Q := by
  refine ev_aload d_Ce_isFilled_75 rfl rfl ?_
  exact ev_call (M' := m_De_isAtEnd) (As := [.ref a5]) (st := st) d_Ce_isFilled_77 i_De_isAtEnd (fun h => absurd h (by decide +kernel)) cw_Ce_104 rfl rfl ⟨hb.1, 9, _, _, hb.2, rfl, rfl⟩ rfl (Nat.le_of_ble_eq_true rfl) h8 k
theorem t_Ce_isFilled_80 {d : Nat} {st : List Value} {o0 : Option Value} {o1 : Option Value} {o2 : Option Value} {o3 : Option Value} {o4 : Option Value} {o5 : Option Value} {o6 : Option Value} {y0 : Int32} {w : qk_W} {nc ns : Nat} {Q : Option Value ⊕ Nat → qk_W → Nat → Nat → Prop}   (kt : y0 = 0 → Ev d m_Ce_isFilled 101 [o0, o1, o2, o3, o4, o5, o6] st w nc ns Q) (kf : ¬ (y0 = 0) → Ev d m_Ce_isFilled 83 [o0, o1, o2, o3, o4, o5, o6] st w nc ns Q) : Ev d m_Ce_isFilled 80 [o0, o1, o2, o3, o4, o5, o6] (.int y0 :: st) w nc ns Q := by
  exact ev_if_eq 101 d_Ce_isFilled_80 (by decide) kt kf
theorem t_Ce_isFilled_83 {d : Nat} {st : List Value} {a0 : Nat} {o1 : Option Value} {o2 : Option Value} {o3 : Option Value} {o4 : Option Value} {a5 : Nat} {o6 : Option Value} {fs2 : List Value} {n4 : Int32} {fsb : List Value} {w : qk_W} {nc ns : Nat} {Q : Option Value ⊕ Nat → qk_W → Nat → Nat → Prop}  (hw1 : wo w a5 9 fs2) (hf3 : fs2[0]? = some (.int n4)) (hb : wo w a0 8 fsb) (h8 : ((.int n4 :: st).map fun v => Value.category v).sum ≤ 8) (k : Ev d m_Me_value 0 [some (.ref a0), some (.int 16)] [] w nc ns (fun r w1 nc1 ns1 => match r with | .inl v => Ev (d + 1) m_Ce_isFilled 94 [some (.ref a0), o1, o2, o3, o4, some (.ref a5), o6] (v.toList ++ (.int n4 :: st)) w1 nc1 ns1 Q | .inr x => Q (.inr x) w1 nc1 ns1)) : Ev (d + 1) m_Ce_isFilled 83 [some (.ref a0), o1, o2, o3, o4, some (.ref a5), o6] st w nc ns Q := by
  refine ev_aload d_Ce_isFilled_83 rfl rfl ?_
  refine ev_getf d_Ce_isFilled_85 fl_Ce_107 hw1.1 hw1.2 hf3 ?_
  refine ev_aload_n d_Ce_isFilled_88 rfl rfl ?_
  refine ev_bipush 16 d_Ce_isFilled_89 (by decide) ?_
  exact ev_call (M' := m_Me_value) (As := [.ref a0, .int 16]) (st := (.int n4 :: st)) d_Ce_isFilled_91 i_Me_value (fun h => absurd h (by decide +kernel)) cw_Ce_56 rfl rfl ⟨hb.1, 8, _, _, hb.2, rfl, rfl⟩ rfl (Nat.le_of_ble_eq_true rfl) h8 k
theorem t_Ce_isFilled_94 {d : Nat} {st : List Value} {o0 : Option Value} {o1 : Option Value} {o2 : Option Value} {o3 : Option Value} {o4 : Option Value} {o5 : Option Value} {o6 : Option Value} {y0 : Int32} {y1 : Int32} {w : qk_W} {nc ns : Nat} {Q : Option Value ⊕ Nat → qk_W → Nat → Nat → Prop}   (kt : ¬ y1 = y0 → Ev d m_Ce_isFilled 101 [o0, o1, o2, o3, o4, o5, o6] st w nc ns Q) (kf : y1 = y0 → Ev d m_Ce_isFilled 97 [o0, o1, o2, o3, o4, o5, o6] st w nc ns Q) : Ev d m_Ce_isFilled 94 [o0, o1, o2, o3, o4, o5, o6] (.int y0 :: .int y1 :: st) w nc ns Q := by
  exact ev_icmp_ne 101 d_Ce_isFilled_94 (by decide) kt kf
theorem t_Ce_isFilled_97 {d : Nat} {o0 : Option Value} {o1 : Option Value} {o2 : Option Value} {o3 : Option Value} {o4 : Option Value} {o5 : Option Value} {o6 : Option Value} {w : qk_W} {nc ns : Nat} {Q : Option Value ⊕ Nat → qk_W → Nat → Nat → Prop}   (hq : Q (.inl (some (.int 1))) w nc ns) : Ev d m_Ce_isFilled 97 [o0, o1, o2, o3, o4, o5, o6] [] w nc ns Q := by
  refine ev_iconst 1 d_Ce_isFilled_97 (by decide) ?_
  refine ev_goto 102 d_Ce_isFilled_98 (by decide) ?_
  exact ev_iret d_Ce_isFilled_102 rfl rfl hq
theorem t_Ce_isFilled_101 {d : Nat} {o0 : Option Value} {o1 : Option Value} {o2 : Option Value} {o3 : Option Value} {o4 : Option Value} {o5 : Option Value} {o6 : Option Value} {w : qk_W} {nc ns : Nat} {Q : Option Value ⊕ Nat → qk_W → Nat → Nat → Prop}   (hq : Q (.inl (some (.int 0))) w nc ns) : Ev d m_Ce_isFilled 101 [o0, o1, o2, o3, o4, o5, o6] [] w nc ns Q := by
  refine ev_iconst 0 d_Ce_isFilled_101 (by decide) ?_
  exact ev_iret d_Ce_isFilled_102 rfl rfl hq
/-! St_receive -/
theorem cw_St_66 : qk_cw "QuakeLink$Station" m_St_isRequest.1 (.invokestatic 66) := ⟨Or.inl (lw_i4 _ (List.mem_of_getElem? (i := 33) rfl)), (lw_i4 _ (List.mem_of_getElem? (i := 34) rfl))⟩
theorem fl_St_70 : qk_fl "QuakeLink$Station" 70 1 2 := ⟨_, rfl, by decide, rfl, (lw_i1 _ (List.mem_of_getElem? (i := 89) rfl))⟩
theorem cw_St_73 : qk_cw "QuakeLink$Station" m_Me_number.1 (.invokevirtual 73) := ⟨(lw_i4 _ (List.mem_of_getElem? (i := 37) rfl)), (lw_i3 _ (List.mem_of_getElem? (i := 146) rfl)), (lw_i3 _ (List.mem_of_getElem? (i := 147) rfl))⟩
theorem cw_St_79 : qk_cw "QuakeLink$Station" m_Ch_askFor.1 (.invokevirtual 79) := ⟨(lw_i4 _ (List.mem_of_getElem? (i := 39) rfl)), (lw_i4 _ (List.mem_of_getElem? (i := 40) rfl)), (lw_i4 _ (List.mem_of_getElem? (i := 41) rfl))⟩
theorem d_St_receive_0 : decode m_St_receive.2.1 0 = .ok (.aload_n 1, 1) := by decide +kernel
theorem d_St_receive_1 : decode m_St_receive.2.1 1 = .ok (.invokestatic 66, 3) := by decide +kernel
theorem d_St_receive_4 : decode m_St_receive.2.1 4 = .ok (.ifCond .ne 15, 3) := by decide +kernel
theorem d_St_receive_7 : decode m_St_receive.2.1 7 = .ok (.aload_n 0, 1) := by decide +kernel
theorem d_St_receive_8 : decode m_St_receive.2.1 8 = .ok (.dup, 1) := by decide +kernel
theorem d_St_receive_9 : decode m_St_receive.2.1 9 = .ok (.getfield 70, 3) := by decide +kernel
theorem d_St_receive_12 : decode m_St_receive.2.1 12 = .ok (.iconst 1, 1) := by decide +kernel
theorem d_St_receive_13 : decode m_St_receive.2.1 13 = .ok (.iadd, 1) := by decide +kernel
theorem d_St_receive_14 : decode m_St_receive.2.1 14 = .ok (.putfield 70, 3) := by decide +kernel
theorem d_St_receive_17 : decode m_St_receive.2.1 17 = .ok (.iconst (-1), 1) := by decide +kernel
theorem d_St_receive_18 : decode m_St_receive.2.1 18 = .ok (.ireturn, 1) := by decide +kernel
theorem d_St_receive_19 : decode m_St_receive.2.1 19 = .ok (.aload_n 0, 1) := by decide +kernel
theorem d_St_receive_20 : decode m_St_receive.2.1 20 = .ok (.getfield 11, 3) := by decide +kernel
theorem d_St_receive_23 : decode m_St_receive.2.1 23 = .ok (.aload_n 1, 1) := by decide +kernel
theorem d_St_receive_24 : decode m_St_receive.2.1 24 = .ok (.iconst 0, 1) := by decide +kernel
theorem d_St_receive_25 : decode m_St_receive.2.1 25 = .ok (.iconst 1, 1) := by decide +kernel
theorem d_St_receive_26 : decode m_St_receive.2.1 26 = .ok (.invokevirtual 73, 3) := by decide +kernel
theorem d_St_receive_29 : decode m_St_receive.2.1 29 = .ok (.l2i, 1) := by decide +kernel
theorem d_St_receive_30 : decode m_St_receive.2.1 30 = .ok (.aaload, 1) := by decide +kernel
theorem d_St_receive_31 : decode m_St_receive.2.1 31 = .ok (.astore_n 2, 1) := by decide +kernel
theorem d_St_receive_32 : decode m_St_receive.2.1 32 = .ok (.aload_n 2, 1) := by decide +kernel
theorem d_St_receive_33 : decode m_St_receive.2.1 33 = .ok (.aload_n 1, 1) := by decide +kernel
theorem d_St_receive_34 : decode m_St_receive.2.1 34 = .ok (.iconst 4, 1) := by decide +kernel
theorem d_St_receive_35 : decode m_St_receive.2.1 35 = .ok (.iconst 4, 1) := by decide +kernel
theorem d_St_receive_36 : decode m_St_receive.2.1 36 = .ok (.invokevirtual 73, 3) := by decide +kernel
theorem d_St_receive_39 : decode m_St_receive.2.1 39 = .ok (.aload_n 1, 1) := by decide +kernel
theorem d_St_receive_40 : decode m_St_receive.2.1 40 = .ok (.bipush 8, 2) := by decide +kernel
theorem d_St_receive_42 : decode m_St_receive.2.1 42 = .ok (.iconst 4, 1) := by decide +kernel
theorem d_St_receive_43 : decode m_St_receive.2.1 43 = .ok (.invokevirtual 73, 3) := by decide +kernel
theorem d_St_receive_46 : decode m_St_receive.2.1 46 = .ok (.invokevirtual 79, 3) := by decide +kernel
theorem d_St_receive_49 : decode m_St_receive.2.1 49 = .ok (.ireturn, 1) := by decide +kernel
theorem t_St_receive_0 {d : Nat} {st : List Value} {o0 : Option Value} {a1 : Nat} {o2 : Option Value} {w : qk_W} {nc ns : Nat} {Q : Option Value ⊕ Nat → qk_W → Nat → Nat → Prop}  (h8 : (st.map fun v => Value.category v).sum ≤ 8) (k : Ev d m_St_isRequest 0 [some (.ref a1)] [] w nc ns (fun r w1 nc1 ns1 => match r with | .inl v => Ev (d + 1) m_St_receive 4 [o0, some (.ref a1), o2] (v.toList ++ st) w1 nc1 ns1 Q | .inr x => Q (.inr x) w1 nc1 ns1)) : Ev (d + 1) m_St_receive 0 [o0, some (.ref a1), o2] st w nc ns Q := by
  refine ev_aload_n d_St_receive_0 rfl rfl ?_
  exact ev_call (M' := m_St_isRequest) (As := [.ref a1]) (st := st) d_St_receive_1 i_St_isRequest (fun h => absurd h (by decide +kernel)) cw_St_66 rfl rfl trivial rfl (Nat.le_of_ble_eq_true rfl) h8 k
theorem t_St_receive_4 {d : Nat} {st : List Value} {o0 : Option Value} {o1 : Option Value} {o2 : Option Value} {y0 : Int32} {w : qk_W} {nc ns : Nat} {Q : Option Value ⊕ Nat → qk_W → Nat → Nat → Prop}   (kt : ¬ y0 = 0 → Ev d m_St_receive 19 [o0, o1, o2] st w nc ns Q) (kf : y0 = 0 → Ev d m_St_receive 7 [o0, o1, o2] st w nc ns Q) : Ev d m_St_receive 4 [o0, o1, o2] (.int y0 :: st) w nc ns Q := by
  exact ev_if_ne 19 d_St_receive_4 (by decide) kt kf
theorem t_St_receive_7 {d : Nat} {st : List Value} {a0 : Nat} {o1 : Option Value} {o2 : Option Value} {fs2 : List Value} {n4 : Int32} {w : qk_W} {nc ns : Nat} {Q : Option Value ⊕ Nat → qk_W → Nat → Nat → Prop}  (hw1 : wo w a0 1 fs2) (hf3 : fs2[2]? = some (.int n4)) (hk : 2 < fs2.length) (k : Ev d m_St_receive 17 [some (.ref a0), o1, o2] st (qk_set w a0 (.inr (1, fs2.set 2 (.int (n4 + 1))))) nc ns Q) : Ev d m_St_receive 7 [some (.ref a0), o1, o2] st w nc ns Q := by
  refine ev_aload_n d_St_receive_7 rfl rfl ?_
  refine ev_dup d_St_receive_8 rfl ?_
  refine ev_getf d_St_receive_9 fl_St_70 hw1.1 hw1.2 hf3 ?_
  refine ev_iconst 1 d_St_receive_12 (by decide) ?_
  refine ev_iadd d_St_receive_13 ?_
  exact ev_putf d_St_receive_14 fl_St_70 rfl hw1.1 hw1.2 hk (qk_fitI _) k
theorem t_St_receive_17 {d : Nat} {o0 : Option Value} {o1 : Option Value} {o2 : Option Value} {w : qk_W} {nc ns : Nat} {Q : Option Value ⊕ Nat → qk_W → Nat → Nat → Prop}   (hq : Q (.inl (some (.int (-1)))) w nc ns) : Ev d m_St_receive 17 [o0, o1, o2] [] w nc ns Q := by
  refine ev_iconst (-1) d_St_receive_17 (by decide) ?_
  exact ev_iret d_St_receive_18 rfl rfl hq
theorem t_St_receive_19 {d : Nat} {st : List Value} {a0 : Nat} {a1 : Nat} {o2 : Option Value} {fs2 : List Value} {c4 : Nat} {fsb : List Value} {w : qk_W} {nc ns : Nat} {Q : Option Value ⊕ Nat → qk_W → Nat → Nat → Prop}  (hw1 : wo w a0 1 fs2) (hf3 : fs2[0]? = some (.ref c4)) (hb : wo w a1 8 fsb) (h8 : ((.ref c4 :: st).map fun v => Value.category v).sum ≤ 8) (k : Ev d m_Me_number 0 [some (.ref a1), some (.int 0), some (.int 1), none, none, none] [] w nc ns (fun r w1 nc1 ns1 => match r with | .inl v => Ev (d + 1) m_St_receive 29 [some (.ref a0), some (.ref a1), o2] (v.toList ++ (.ref c4 :: st)) w1 nc1 ns1 Q | .inr x => Q (.inr x) w1 nc1 ns1)) : Ev (d + 1) m_St_receive 19 [some (.ref a0), some (.ref a1), o2] st w nc ns Q := by
  refine ev_aload_n d_St_receive_19 rfl rfl ?_
  refine ev_getf d_St_receive_20 fl_St_11 hw1.1 hw1.2 hf3 ?_
  refine ev_aload_n d_St_receive_23 rfl rfl ?_
  refine ev_iconst 0 d_St_receive_24 (by decide) ?_
  refine ev_iconst 1 d_St_receive_25 (by decide) ?_
  exact ev_call (M' := m_Me_number) (As := [.ref a1, .int 0, .int 1]) (st := (.ref c4 :: st)) d_St_receive_26 i_Me_number (fun h => absurd h (by decide +kernel)) cw_St_73 rfl rfl ⟨hb.1, 8, _, _, hb.2, rfl, rfl⟩ rfl (Nat.le_of_ble_eq_true rfl) h8 k
theorem t_St_receive_29 {d : Nat} {st : List Value} {o0 : Option Value} {a1 : Nat} {o2 : Option Value} {y0 : Int64} {b1 : Nat} {n2 : Nat} {f3 : Nat → Option Nat} {c6 : Nat} {fsb : List Value} {w : qk_W} {nc ns : Nat} {Q : Option Value ⊕ Nat → qk_W → Nat → Nat → Prop}  (ha1 : wr "QuakeLink$Channel" w b1 n2 f3) (hi4 : vp_in (Int64.toInt32 y0) n2) (hr5 : f3 (Int64.toInt32 y0).toNatClampNeg = some c6) (hc7 : qk_c2 [o0, some (.ref a1), o2] 2 = true) (hb : wo w a1 8 fsb) (h8 : ((.ref c6 :: st).map fun v => Value.category v).sum ≤ 8) (k : Ev d m_Me_number 0 [some (.ref a1), some (.int 4), some (.int 4), none, none, none] [] w nc ns (fun r w1 nc1 ns1 => match r with | .inl v => Ev (d + 1) m_St_receive 39 [o0, some (.ref a1), some (.ref c6)] (v.toList ++ (.ref c6 :: st)) w1 nc1 ns1 Q | .inr x => Q (.inr x) w1 nc1 ns1)) : Ev (d + 1) m_St_receive 29 [o0, some (.ref a1), o2] (.long y0 :: .ref b1 :: st) w nc ns Q := by
  refine ev_l2i d_St_receive_29 ?_
  refine ev_aald d_St_receive_30 ha1.1 (by decide) ha1.2 hi4 ?_
  rw [hr5]
  show Ev _ _ _ _ (Value.ref c6 :: _) _ _ _ _
  refine ev_astore_n d_St_receive_31 rfl (by decide) hc7 ?_
  refine ev_aload_n d_St_receive_32 rfl rfl ?_
  refine ev_aload_n d_St_receive_33 rfl rfl ?_
  refine ev_iconst 4 d_St_receive_34 (by decide) ?_
  refine ev_iconst 4 d_St_receive_35 (by decide) ?_
  exact ev_call (M' := m_Me_number) (As := [.ref a1, .int 4, .int 4]) (st := (.ref c6 :: st)) d_St_receive_36 i_Me_number (fun h => absurd h (by decide +kernel)) cw_St_73 rfl rfl ⟨hb.1, 8, _, _, hb.2, rfl, rfl⟩ rfl (Nat.le_of_ble_eq_true rfl) h8 k
theorem t_St_receive_39 {d : Nat} {st : List Value} {o0 : Option Value} {a1 : Nat} {o2 : Option Value} {fsb : List Value} {w : qk_W} {nc ns : Nat} {Q : Option Value ⊕ Nat → qk_W → Nat → Nat → Prop}  (hb : wo w a1 8 fsb) (h8 : (st.map fun v => Value.category v).sum ≤ 8) (k : Ev d m_Me_number 0 [some (.ref a1), some (.int 8), some (.int 4), none, none, none] [] w nc ns (fun r w1 nc1 ns1 => match r with | .inl v => Ev (d + 1) m_St_receive 46 [o0, some (.ref a1), o2] (v.toList ++ st) w1 nc1 ns1 Q | .inr x => Q (.inr x) w1 nc1 ns1)) : Ev (d + 1) m_St_receive 39 [o0, some (.ref a1), o2] st w nc ns Q := by
  refine ev_aload_n d_St_receive_39 rfl rfl ?_
  refine ev_bipush 8 d_St_receive_40 (by decide) ?_
  refine ev_iconst 4 d_St_receive_42 (by decide) ?_
  exact ev_call (M' := m_Me_number) (As := [.ref a1, .int 8, .int 4]) (st := st) d_St_receive_43 i_Me_number (fun h => absurd h (by decide +kernel)) cw_St_73 rfl rfl ⟨hb.1, 8, _, _, hb.2, rfl, rfl⟩ rfl (Nat.le_of_ble_eq_true rfl) h8 k
theorem t_St_receive_46 {d : Nat} {st : List Value} {o0 : Option Value} {o1 : Option Value} {o2 : Option Value} {y0 : Int64} {y1 : Int64} {b2 : Nat} {fsb : List Value} {w : qk_W} {nc ns : Nat} {Q : Option Value ⊕ Nat → qk_W → Nat → Nat → Prop}  (hb : wo w b2 2 fsb) (h8 : (st.map fun v => Value.category v).sum ≤ 8) (k : Ev d m_Ch_askFor 0 [some (.ref b2), some (.long y1), none, some (.long y0), none, none, none] [] w nc ns (fun r w1 nc1 ns1 => match r with | .inl v => Ev (d + 1) m_St_receive 49 [o0, o1, o2] (v.toList ++ st) w1 nc1 ns1 Q | .inr x => Q (.inr x) w1 nc1 ns1)) : Ev (d + 1) m_St_receive 46 [o0, o1, o2] (.long y0 :: .long y1 :: .ref b2 :: st) w nc ns Q := by
  exact ev_call (M' := m_Ch_askFor) (As := [.ref b2, .long y1, .long y0]) (st := st) d_St_receive_46 i_Ch_askFor (fun h => absurd h (by decide +kernel)) cw_St_79 rfl rfl ⟨hb.1, 2, _, _, hb.2, rfl, rfl⟩ rfl (Nat.le_of_ble_eq_true rfl) h8 k
theorem t_St_receive_49 {d : Nat} {o0 : Option Value} {o1 : Option Value} {o2 : Option Value} {y0 : Int32} {w : qk_W} {nc ns : Nat} {Q : Option Value ⊕ Nat → qk_W → Nat → Nat → Prop}   (hq : Q (.inl (some (.int y0))) w nc ns) : Ev d m_St_receive 49 [o0, o1, o2] [.int y0] w nc ns Q := by
  exact ev_iret d_St_receive_49 rfl rfl hq
/-! St_isRequest -/
theorem fl_St_83 : qk_fl "QuakeLink$Station" 83 8 1 := ⟨_, rfl, by decide, rfl, (lw_i1 _ (List.mem_of_getElem? (i := 238) rfl))⟩
theorem cw_St_86 : qk_cw "QuakeLink$Station" m_Me_isSealed.1 (.invokevirtual 86) := ⟨(lw_i4 _ (List.mem_of_getElem? (i := 36) rfl)), (lw_i3 _ (List.mem_of_getElem? (i := 138) rfl)), (lw_i3 _ (List.mem_of_getElem? (i := 139) rfl))⟩
theorem cw_St_90 : qk_cw "QuakeLink$Station" m_Q_isChannel.1 (.invokestatic 90) := ⟨Or.inr ⟨"QuakeLink", (lw_i4 _ (List.mem_of_getElem? (i := 38) rfl))⟩, (lw_i2 _ (List.mem_of_getElem? (i := 161) rfl))⟩
theorem d_St_isRequest_0 : decode m_St_isRequest.2.1 0 = .ok (.aload_n 0, 1) := by decide +kernel
theorem d_St_isRequest_1 : decode m_St_isRequest.2.1 1 = .ok (.getfield 83, 3) := by decide +kernel
theorem d_St_isRequest_4 : decode m_St_isRequest.2.1 4 = .ok (.bipush 16, 2) := by decide +kernel
theorem d_St_isRequest_6 : decode m_St_isRequest.2.1 6 = .ok (.if_icmp .ne 54, 3) := by decide +kernel
theorem d_St_isRequest_9 : decode m_St_isRequest.2.1 9 = .ok (.aload_n 0, 1) := by decide +kernel
theorem d_St_isRequest_10 : decode m_St_isRequest.2.1 10 = .ok (.invokevirtual 86, 3) := by decide +kernel
theorem d_St_isRequest_13 : decode m_St_isRequest.2.1 13 = .ok (.ifCond .eq 47, 3) := by decide +kernel
theorem d_St_isRequest_16 : decode m_St_isRequest.2.1 16 = .ok (.aload_n 0, 1) := by decide +kernel
theorem d_St_isRequest_17 : decode m_St_isRequest.2.1 17 = .ok (.iconst 0, 1) := by decide +kernel
theorem d_St_isRequest_18 : decode m_St_isRequest.2.1 18 = .ok (.iconst 1, 1) := by decide +kernel
theorem d_St_isRequest_19 : decode m_St_isRequest.2.1 19 = .ok (.invokevirtual 73, 3) := by decide +kernel
theorem d_St_isRequest_22 : decode m_St_isRequest.2.1 22 = .ok (.invokestatic 90, 3) := by decide +kernel
theorem d_St_isRequest_25 : decode m_St_isRequest.2.1 25 = .ok (.ifCond .eq 35, 3) := by decide +kernel
theorem d_St_isRequest_28 : decode m_St_isRequest.2.1 28 = .ok (.aload_n 0, 1) := by decide +kernel
theorem d_St_isRequest_29 : decode m_St_isRequest.2.1 29 = .ok (.iconst 1, 1) := by decide +kernel
theorem d_St_isRequest_30 : decode m_St_isRequest.2.1 30 = .ok (.iconst 3, 1) := by decide +kernel
theorem d_St_isRequest_31 : decode m_St_isRequest.2.1 31 = .ok (.invokevirtual 73, 3) := by decide +kernel
theorem d_St_isRequest_34 : decode m_St_isRequest.2.1 34 = .ok (.lconst 0, 1) := by decide +kernel
theorem d_St_isRequest_35 : decode m_St_isRequest.2.1 35 = .ok (.lcmp, 1) := by decide +kernel
theorem d_St_isRequest_36 : decode m_St_isRequest.2.1 36 = .ok (.ifCond .ne 24, 3) := by decide +kernel
theorem d_St_isRequest_39 : decode m_St_isRequest.2.1 39 = .ok (.aload_n 0, 1) := by decide +kernel
theorem d_St_isRequest_40 : decode m_St_isRequest.2.1 40 = .ok (.iconst 4, 1) := by decide +kernel
theorem d_St_isRequest_41 : decode m_St_isRequest.2.1 41 = .ok (.iconst 4, 1) := by decide +kernel
theorem d_St_isRequest_42 : decode m_St_isRequest.2.1 42 = .ok (.invokevirtual 73, 3) := by decide +kernel
theorem d_St_isRequest_45 : decode m_St_isRequest.2.1 45 = .ok (.aload_n 0, 1) := by decide +kernel
theorem d_St_isRequest_46 : decode m_St_isRequest.2.1 46 = .ok (.bipush 8, 2) := by decide +kernel
theorem d_St_isRequest_48 : decode m_St_isRequest.2.1 48 = .ok (.iconst 4, 1) := by decide +kernel
theorem d_St_isRequest_49 : decode m_St_isRequest.2.1 49 = .ok (.invokevirtual 73, 3) := by decide +kernel
theorem d_St_isRequest_52 : decode m_St_isRequest.2.1 52 = .ok (.lcmp, 1) := by decide +kernel
theorem d_St_isRequest_53 : decode m_St_isRequest.2.1 53 = .ok (.ifCond .gt 7, 3) := by decide +kernel
theorem d_St_isRequest_56 : decode m_St_isRequest.2.1 56 = .ok (.iconst 1, 1) := by decide +kernel
theorem d_St_isRequest_57 : decode m_St_isRequest.2.1 57 = .ok (.goto 4, 3) := by decide +kernel
theorem d_St_isRequest_60 : decode m_St_isRequest.2.1 60 = .ok (.iconst 0, 1) := by decide +kernel
theorem d_St_isRequest_61 : decode m_St_isRequest.2.1 61 = .ok (.ireturn, 1) := by decide +kernel
theorem t_St_isRequest_0 {d : Nat} {st : List Value} {a0 : Nat} {fs2 : List Value} {n4 : Int32} {w : qk_W} {nc ns : Nat} {Q : Option Value ⊕ Nat → qk_W → Nat → Nat → Prop}  (hw1 : wo w a0 8 fs2) (hf3 : fs2[1]? = some (.int n4)) (kt : ¬ n4 = (16 : Int32) → Ev d m_St_isRequest 60 [some (.ref a0)] st w nc ns Q) (kf : n4 = (16 : Int32) → Ev d m_St_isRequest 9 [some (.ref a0)] st w nc ns Q) : Ev d m_St_isRequest 0 [some (.ref a0)] st w nc ns Q := by
  refine ev_aload_n d_St_isRequest_0 rfl rfl ?_
  refine ev_getf d_St_isRequest_1 fl_St_83 hw1.1 hw1.2 hf3 ?_
  refine ev_bipush 16 d_St_isRequest_4 (by decide) ?_
  exact ev_icmp_ne 60 d_St_isRequest_6 (by decide) kt kf
theorem t_St_isRequest_9 {d : Nat} {st : List Value} {a0 : Nat} {fsb : List Value} {w : qk_W} {nc ns : Nat} {Q : Option Value ⊕ Nat → qk_W → Nat → Nat → Prop}  (hb : wo w a0 8 fsb) (h8 : (st.map fun v => Value.category v).sum ≤ 8) (k : Ev d m_Me_isSealed 0 [some (.ref a0)] [] w nc ns (fun r w1 nc1 ns1 => match r with | .inl v => Ev (d + 1) m_St_isRequest 13 [some (.ref a0)] (v.toList ++ st) w1 nc1 ns1 Q | .inr x => Q (.inr x) w1 nc1 ns1)) : Ev (d + 1) m_St_isRequest 9 [some (.ref a0)] st w nc ns Q := by
  refine ev_aload_n d_St_isRequest_9 rfl rfl ?_
  exact ev_call (M' := m_Me_isSealed) (As := [.ref a0]) (st := st) d_St_isRequest_10 i_Me_isSealed (fun h => absurd h (by decide +kernel)) cw_St_86 rfl rfl ⟨hb.1, 8, _, _, hb.2, rfl, rfl⟩ rfl (Nat.le_of_ble_eq_true rfl) h8 k
theorem t_St_isRequest_13 {d : Nat} {st : List Value} {o0 : Option Value} {y0 : Int32} {w : qk_W} {nc ns : Nat} {Q : Option Value ⊕ Nat → qk_W → Nat → Nat → Prop}   (kt : y0 = 0 → Ev d m_St_isRequest 60 [o0] st w nc ns Q) (kf : ¬ (y0 = 0) → Ev d m_St_isRequest 16 [o0] st w nc ns Q) : Ev d m_St_isRequest 13 [o0] (.int y0 :: st) w nc ns Q := by
  exact ev_if_eq 60 d_St_isRequest_13 (by decide) kt kf
theorem t_St_isRequest_16 {d : Nat} {st : List Value} {a0 : Nat} {fsb : List Value} {w : qk_W} {nc ns : Nat} {Q : Option Value ⊕ Nat → qk_W → Nat → Nat → Prop}  (hb : wo w a0 8 fsb) (h8 : (st.map fun v => Value.category v).sum ≤ 8) (k : Ev d m_Me_number 0 [some (.ref a0), some (.int 0), some (.int 1), none, none, none] [] w nc ns (fun r w1 nc1 ns1 => match r with | .inl v => Ev (d + 1) m_St_isRequest 22 [some (.ref a0)] (v.toList ++ st) w1 nc1 ns1 Q | .inr x => Q (.inr x) w1 nc1 ns1)) : Ev (d + 1) m_St_isRequest 16 [some (.ref a0)] st w nc ns Q := by
  refine ev_aload_n d_St_isRequest_16 rfl rfl ?_
  refine ev_iconst 0 d_St_isRequest_17 (by decide) ?_
  refine ev_iconst 1 d_St_isRequest_18 (by decide) ?_
  exact ev_call (M' := m_Me_number) (As := [.ref a0, .int 0, .int 1]) (st := st) d_St_isRequest_19 i_Me_number (fun h => absurd h (by decide +kernel)) cw_St_73 rfl rfl ⟨hb.1, 8, _, _, hb.2, rfl, rfl⟩ rfl (Nat.le_of_ble_eq_true rfl) h8 k
theorem t_St_isRequest_22 {d : Nat} {st : List Value} {o0 : Option Value} {y0 : Int64} {w : qk_W} {nc ns : Nat} {Q : Option Value ⊕ Nat → qk_W → Nat → Nat → Prop}  (h8 : (st.map fun v => Value.category v).sum ≤ 8) (k : Ev d m_Q_isChannel 0 [some (.long y0), none] [] w nc ns (fun r w1 nc1 ns1 => match r with | .inl v => Ev (d + 1) m_St_isRequest 25 [o0] (v.toList ++ st) w1 nc1 ns1 Q | .inr x => Q (.inr x) w1 nc1 ns1)) : Ev (d + 1) m_St_isRequest 22 [o0] (.long y0 :: st) w nc ns Q := by
  exact ev_call (M' := m_Q_isChannel) (As := [.long y0]) (st := st) d_St_isRequest_22 i_Q_isChannel (fun h => absurd h (by decide +kernel)) cw_St_90 rfl rfl trivial rfl (Nat.le_of_ble_eq_true rfl) h8 k
theorem t_St_isRequest_25 {d : Nat} {st : List Value} {o0 : Option Value} {y0 : Int32} {w : qk_W} {nc ns : Nat} {Q : Option Value ⊕ Nat → qk_W → Nat → Nat → Prop}   (kt : y0 = 0 → Ev d m_St_isRequest 60 [o0] st w nc ns Q) (kf : ¬ (y0 = 0) → Ev d m_St_isRequest 28 [o0] st w nc ns Q) : Ev d m_St_isRequest 25 [o0] (.int y0 :: st) w nc ns Q := by
  exact ev_if_eq 60 d_St_isRequest_25 (by decide) kt kf
theorem t_St_isRequest_28 {d : Nat} {st : List Value} {a0 : Nat} {fsb : List Value} {w : qk_W} {nc ns : Nat} {Q : Option Value ⊕ Nat → qk_W → Nat → Nat → Prop}  (hb : wo w a0 8 fsb) (h8 : (st.map fun v => Value.category v).sum ≤ 8) (k : Ev d m_Me_number 0 [some (.ref a0), some (.int 1), some (.int 3), none, none, none] [] w nc ns (fun r w1 nc1 ns1 => match r with | .inl v => Ev (d + 1) m_St_isRequest 34 [some (.ref a0)] (v.toList ++ st) w1 nc1 ns1 Q | .inr x => Q (.inr x) w1 nc1 ns1)) : Ev (d + 1) m_St_isRequest 28 [some (.ref a0)] st w nc ns Q := by
  refine ev_aload_n d_St_isRequest_28 rfl rfl ?_
  refine ev_iconst 1 d_St_isRequest_29 (by decide) ?_
  refine ev_iconst 3 d_St_isRequest_30 (by decide) ?_
  exact ev_call (M' := m_Me_number) (As := [.ref a0, .int 1, .int 3]) (st := st) d_St_isRequest_31 i_Me_number (fun h => absurd h (by decide +kernel)) cw_St_73 rfl rfl ⟨hb.1, 8, _, _, hb.2, rfl, rfl⟩ rfl (Nat.le_of_ble_eq_true rfl) h8 k
theorem t_St_isRequest_34 {d : Nat} {st : List Value} {o0 : Option Value} {y0 : Int64} {w : qk_W} {nc ns : Nat} {Q : Option Value ⊕ Nat → qk_W → Nat → Nat → Prop}   (kt : ¬ (lg_cmp y0 0) = 0 → Ev d m_St_isRequest 60 [o0] st w nc ns Q) (kf : (lg_cmp y0 0) = 0 → Ev d m_St_isRequest 39 [o0] st w nc ns Q) : Ev d m_St_isRequest 34 [o0] (.long y0 :: st) w nc ns Q := by
  refine ev_lconst 0 d_St_isRequest_34 (by decide) ?_
  refine ev_lcmp d_St_isRequest_35 ?_
  exact ev_if_ne 60 d_St_isRequest_36 (by decide) kt kf
theorem t_St_isRequest_39 {d : Nat} {st : List Value} {a0 : Nat} {fsb : List Value} {w : qk_W} {nc ns : Nat} {Q : Option Value ⊕ Nat → qk_W → Nat → Nat → Prop}  (hb : wo w a0 8 fsb) (h8 : (st.map fun v => Value.category v).sum ≤ 8) (k : Ev d m_Me_number 0 [some (.ref a0), some (.int 4), some (.int 4), none, none, none] [] w nc ns (fun r w1 nc1 ns1 => match r with | .inl v => Ev (d + 1) m_St_isRequest 45 [some (.ref a0)] (v.toList ++ st) w1 nc1 ns1 Q | .inr x => Q (.inr x) w1 nc1 ns1)) : Ev (d + 1) m_St_isRequest 39 [some (.ref a0)] st w nc ns Q := by
  refine ev_aload_n d_St_isRequest_39 rfl rfl ?_
  refine ev_iconst 4 d_St_isRequest_40 (by decide) ?_
  refine ev_iconst 4 d_St_isRequest_41 (by decide) ?_
  exact ev_call (M' := m_Me_number) (As := [.ref a0, .int 4, .int 4]) (st := st) d_St_isRequest_42 i_Me_number (fun h => absurd h (by decide +kernel)) cw_St_73 rfl rfl ⟨hb.1, 8, _, _, hb.2, rfl, rfl⟩ rfl (Nat.le_of_ble_eq_true rfl) h8 k
theorem t_St_isRequest_45 {d : Nat} {st : List Value} {a0 : Nat} {fsb : List Value} {w : qk_W} {nc ns : Nat} {Q : Option Value ⊕ Nat → qk_W → Nat → Nat → Prop}  (hb : wo w a0 8 fsb) (h8 : (st.map fun v => Value.category v).sum ≤ 8) (k : Ev d m_Me_number 0 [some (.ref a0), some (.int 8), some (.int 4), none, none, none] [] w nc ns (fun r w1 nc1 ns1 => match r with | .inl v => Ev (d + 1) m_St_isRequest 52 [some (.ref a0)] (v.toList ++ st) w1 nc1 ns1 Q | .inr x => Q (.inr x) w1 nc1 ns1)) : Ev (d + 1) m_St_isRequest 45 [some (.ref a0)] st w nc ns Q := by
  refine ev_aload_n d_St_isRequest_45 rfl rfl ?_
  refine ev_bipush 8 d_St_isRequest_46 (by decide) ?_
  refine ev_iconst 4 d_St_isRequest_48 (by decide) ?_
  exact ev_call (M' := m_Me_number) (As := [.ref a0, .int 8, .int 4]) (st := st) d_St_isRequest_49 i_Me_number (fun h => absurd h (by decide +kernel)) cw_St_73 rfl rfl ⟨hb.1, 8, _, _, hb.2, rfl, rfl⟩ rfl (Nat.le_of_ble_eq_true rfl) h8 k
theorem t_St_isRequest_52 {d : Nat} {st : List Value} {o0 : Option Value} {y0 : Int64} {y1 : Int64} {w : qk_W} {nc ns : Nat} {Q : Option Value ⊕ Nat → qk_W → Nat → Nat → Prop}   (kt : 0 < (lg_cmp y1 y0) → Ev d m_St_isRequest 60 [o0] st w nc ns Q) (kf : ¬ (0 < (lg_cmp y1 y0)) → Ev d m_St_isRequest 56 [o0] st w nc ns Q) : Ev d m_St_isRequest 52 [o0] (.long y0 :: .long y1 :: st) w nc ns Q := by
  refine ev_lcmp d_St_isRequest_52 ?_
  exact ev_if_gt 60 d_St_isRequest_53 (by decide) kt kf
theorem t_St_isRequest_56 {d : Nat} {o0 : Option Value} {w : qk_W} {nc ns : Nat} {Q : Option Value ⊕ Nat → qk_W → Nat → Nat → Prop}   (hq : Q (.inl (some (.int 1))) w nc ns) : Ev d m_St_isRequest 56 [o0] [] w nc ns Q := by
  refine ev_iconst 1 d_St_isRequest_56 (by decide) ?_
  refine ev_goto 61 d_St_isRequest_57 (by decide) ?_
  exact ev_iret d_St_isRequest_61 rfl rfl hq
theorem t_St_isRequest_60 {d : Nat} {o0 : Option Value} {w : qk_W} {nc ns : Nat} {Q : Option Value ⊕ Nat → qk_W → Nat → Nat → Prop}   (hq : Q (.inl (some (.int 0))) w nc ns) : Ev d m_St_isRequest 60 [o0] [] w nc ns Q := by
  refine ev_iconst 0 d_St_isRequest_60 (by decide) ?_
  exact ev_iret d_St_isRequest_61 rfl rfl hq
/-! St_howManyWait -/
theorem d_St_howManyWait_0 : decode m_St_howManyWait.2.1 0 = .ok (.iconst 0, 1) := by decide +kernel
theorem d_St_howManyWait_1 : decode m_St_howManyWait.2.1 1 = .ok (.istore_n 1, 1) := by decide +kernel
theorem d_St_howManyWait_2 : decode m_St_howManyWait.2.1 2 = .ok (.iconst 0, 1) := by decide +kernel
theorem d_St_howManyWait_3 : decode m_St_howManyWait.2.1 3 = .ok (.istore_n 2, 1) := by decide +kernel
theorem d_St_howManyWait_4 : decode m_St_howManyWait.2.1 4 = .ok (.iload_n 2, 1) := by decide +kernel
theorem d_St_howManyWait_5 : decode m_St_howManyWait.2.1 5 = .ok (.iconst 4, 1) := by decide +kernel
theorem d_St_howManyWait_6 : decode m_St_howManyWait.2.1 6 = .ok (.if_icmp .ge 21, 3) := by decide +kernel
theorem d_St_howManyWait_9 : decode m_St_howManyWait.2.1 9 = .ok (.iload_n 1, 1) := by decide +kernel
theorem d_St_howManyWait_10 : decode m_St_howManyWait.2.1 10 = .ok (.aload_n 0, 1) := by decide +kernel
theorem d_St_howManyWait_11 : decode m_St_howManyWait.2.1 11 = .ok (.getfield 11, 3) := by decide +kernel
theorem d_St_howManyWait_14 : decode m_St_howManyWait.2.1 14 = .ok (.iload_n 2, 1) := by decide +kernel
theorem d_St_howManyWait_15 : decode m_St_howManyWait.2.1 15 = .ok (.aaload, 1) := by decide +kernel
theorem d_St_howManyWait_16 : decode m_St_howManyWait.2.1 16 = .ok (.invokevirtual 45, 3) := by decide +kernel
theorem d_St_howManyWait_19 : decode m_St_howManyWait.2.1 19 = .ok (.iadd, 1) := by decide +kernel
theorem d_St_howManyWait_20 : decode m_St_howManyWait.2.1 20 = .ok (.istore_n 1, 1) := by decide +kernel
theorem d_St_howManyWait_21 : decode m_St_howManyWait.2.1 21 = .ok (.iinc 2 1, 3) := by decide +kernel
theorem d_St_howManyWait_24 : decode m_St_howManyWait.2.1 24 = .ok (.goto (-20), 3) := by decide +kernel
theorem d_St_howManyWait_27 : decode m_St_howManyWait.2.1 27 = .ok (.iload_n 1, 1) := by decide +kernel
theorem d_St_howManyWait_28 : decode m_St_howManyWait.2.1 28 = .ok (.ireturn, 1) := by decide +kernel
theorem t_St_howManyWait_0 {d : Nat} {st : List Value} {o0 : Option Value} {o1 : Option Value} {o2 : Option Value} {w : qk_W} {nc ns : Nat} {Q : Option Value ⊕ Nat → qk_W → Nat → Nat → Prop}  (hc1 : qk_c2 [o0, o1, o2] 1 = true) (k : Ev d m_St_howManyWait 4 [o0, some (.int 0), some (.int 0)] st w nc ns Q) : Ev d m_St_howManyWait 0 [o0, o1, o2] st w nc ns Q := by
  refine ev_iconst 0 d_St_howManyWait_0 (by decide) ?_
  refine ev_istore_n d_St_howManyWait_1 (by decide) hc1 ?_
  refine ev_iconst 0 d_St_howManyWait_2 (by decide) ?_
  refine ev_istore_n d_St_howManyWait_3 (by decide) rfl ?_
  exact k
theorem t_St_howManyWait_4 {d : Nat} {st : List Value} {o0 : Option Value} {o1 : Option Value} {x2 : Int32} {w : qk_W} {nc ns : Nat} {Q : Option Value ⊕ Nat → qk_W → Nat → Nat → Prop}   (kt : (4 : Int32) ≤ x2 → Ev d m_St_howManyWait 27 [o0, o1, some (.int x2)] st w nc ns Q) (kf : ¬ ((4 : Int32) ≤ x2) → Ev d m_St_howManyWait 9 [o0, o1, some (.int x2)] st w nc ns Q) : Ev d m_St_howManyWait 4 [o0, o1, some (.int x2)] st w nc ns Q := by
  refine ev_iload_n d_St_howManyWait_4 rfl ?_
  refine ev_iconst 4 d_St_howManyWait_5 (by decide) ?_
  exact ev_icmp_ge 27 d_St_howManyWait_6 (by decide) kt kf
theorem t_St_howManyWait_9 {d : Nat} {st : List Value} {a0 : Nat} {x1 : Int32} {x2 : Int32} {fs2 : List Value} {c4 : Nat} {n6 : Nat} {f7 : Nat → Option Nat} {c10 : Nat} {fsb : List Value} {w : qk_W} {nc ns : Nat} {Q : Option Value ⊕ Nat → qk_W → Nat → Nat → Prop}  (hw1 : wo w a0 1 fs2) (hf3 : fs2[0]? = some (.ref c4)) (ha5 : wr "QuakeLink$Channel" w c4 n6 f7) (hi8 : vp_in x2 n6) (hr9 : f7 x2.toNatClampNeg = some c10) (hb : wo w c10 2 fsb) (h8 : ((.int x1 :: st).map fun v => Value.category v).sum ≤ 8) (k : Ev d m_Ch_howManyWait 0 [some (.ref c10)] [] w nc ns (fun r w1 nc1 ns1 => match r with | .inl v => Ev (d + 1) m_St_howManyWait 19 [some (.ref a0), some (.int x1), some (.int x2)] (v.toList ++ (.int x1 :: st)) w1 nc1 ns1 Q | .inr x => Q (.inr x) w1 nc1 ns1)) : Ev (d + 1) m_St_howManyWait 9 [some (.ref a0), some (.int x1), some (.int x2)] st w nc ns Q := by
  refine ev_iload_n d_St_howManyWait_9 rfl ?_
  refine ev_aload_n d_St_howManyWait_10 rfl rfl ?_
  refine ev_getf d_St_howManyWait_11 fl_St_11 hw1.1 hw1.2 hf3 ?_
  refine ev_iload_n d_St_howManyWait_14 rfl ?_
  refine ev_aald d_St_howManyWait_15 ha5.1 (by decide) ha5.2 hi8 ?_
  rw [hr9]
  show Ev _ _ _ _ (Value.ref c10 :: _) _ _ _ _
  exact ev_call (M' := m_Ch_howManyWait) (As := [.ref c10]) (st := (.int x1 :: st)) d_St_howManyWait_16 i_Ch_howManyWait (fun h => absurd h (by decide +kernel)) cw_St_45 rfl rfl ⟨hb.1, 2, _, _, hb.2, rfl, rfl⟩ rfl (Nat.le_of_ble_eq_true rfl) h8 k
theorem t_St_howManyWait_19 {d : Nat} {st : List Value} {o0 : Option Value} {o1 : Option Value} {x2 : Int32} {y0 : Int32} {y1 : Int32} {w : qk_W} {nc ns : Nat} {Q : Option Value ⊕ Nat → qk_W → Nat → Nat → Prop}  (hc1 : qk_c2 [o0, o1, some (.int x2)] 1 = true) (k : Ev d m_St_howManyWait 4 [o0, some (.int (y1 + y0)), some (.int (x2 + 1))] st w nc ns Q) : Ev d m_St_howManyWait 19 [o0, o1, some (.int x2)] (.int y0 :: .int y1 :: st) w nc ns Q := by
  refine ev_iadd d_St_howManyWait_19 ?_
  refine ev_istore_n d_St_howManyWait_20 (by decide) hc1 ?_
  refine ev_iinc 1 d_St_howManyWait_21 (by decide) rfl (by decide) rfl ?_
  refine ev_goto 4 d_St_howManyWait_24 (by decide) ?_
  exact k
theorem t_St_howManyWait_27 {d : Nat} {o0 : Option Value} {x1 : Int32} {o2 : Option Value} {w : qk_W} {nc ns : Nat} {Q : Option Value ⊕ Nat → qk_W → Nat → Nat → Prop}   (hq : Q (.inl (some (.int x1))) w nc ns) : Ev d m_St_howManyWait 27 [o0, some (.int x1), o2] [] w nc ns Q := by
  refine ev_iload_n d_St_howManyWait_27 rfl ?_
  exact ev_iret d_St_howManyWait_28 rfl rfl hq
