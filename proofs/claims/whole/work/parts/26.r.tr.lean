/-! Tr_init -/
theorem ob_Tr_3 : Cond.methodLink "QuakeLink$Track" 3 Lib.objectInit ∈ lw_tbl := (lw_i1 _ (List.mem_of_getElem? (i := 132) rfl))
theorem nl_Tr_9 : qk_nl "QuakeLink$Track" 9 3 [.null, .int 0] := ⟨_, rfl, by decide, (lw_i1 _ (List.mem_of_getElem? (i := 133) rfl)), rfl, rfl⟩
theorem cw_Tr_11 : qk_cw "QuakeLink$Track" m_Ns_init.1 (.invokespecial 11) := ⟨rfl, Or.inr ⟨"QuakeLink", (lw_i1 _ (List.mem_of_getElem? (i := 134) rfl))⟩, (lw_i1 _ (List.mem_of_getElem? (i := 46) rfl))⟩
theorem fl_Tr_12 : qk_fl "QuakeLink$Track" 12 6 0 := ⟨_, rfl, by decide, rfl, (lw_i1 _ (List.mem_of_getElem? (i := 137) rfl))⟩
theorem al_Tr_18 : Cond.classLink "QuakeLink$Track" 18 "QuakeLink$Page" ∈ lw_tbl ∧ Cond.arrayOver (.object "QuakeLink$Page") ∈ lw_tbl := ⟨(lw_i1 _ (List.mem_of_getElem? (i := 135) rfl)), (lw_i1 _ (List.mem_of_getElem? (i := 136) rfl))⟩
theorem fl_Tr_20 : qk_fl "QuakeLink$Track" 20 6 2 := ⟨_, rfl, by decide, rfl, (lw_i1 _ (List.mem_of_getElem? (i := 141) rfl))⟩
theorem d_Tr_init_0 : decode m_Tr_init.2.1 0 = .ok (.aload_n 0, 1) := by decide +kernel
theorem d_Tr_init_1 : decode m_Tr_init.2.1 1 = .ok (.invokespecial 3, 3) := by decide +kernel
theorem d_Tr_init_4 : decode m_Tr_init.2.1 4 = .ok (.aload_n 0, 1) := by decide +kernel
theorem d_Tr_init_5 : decode m_Tr_init.2.1 5 = .ok (.new 9, 3) := by decide +kernel
theorem d_Tr_init_8 : decode m_Tr_init.2.1 8 = .ok (.dup, 1) := by decide +kernel
theorem d_Tr_init_9 : decode m_Tr_init.2.1 9 = .ok (.invokespecial 11, 3) := by decide +kernel
theorem d_Tr_init_12 : decode m_Tr_init.2.1 12 = .ok (.putfield 12, 3) := by decide +kernel
theorem d_Tr_init_15 : decode m_Tr_init.2.1 15 = .ok (.aload_n 0, 1) := by decide +kernel
theorem d_Tr_init_16 : decode m_Tr_init.2.1 16 = .ok (.bipush 32, 2) := by decide +kernel
theorem d_Tr_init_18 : decode m_Tr_init.2.1 18 = .ok (.anewarray 18, 3) := by decide +kernel
theorem d_Tr_init_21 : decode m_Tr_init.2.1 21 = .ok (.putfield 20, 3) := by decide +kernel
theorem d_Tr_init_24 : decode m_Tr_init.2.1 24 = .ok (.return_, 1) := by decide +kernel
theorem t_Tr_init_0 {d : Nat} {st : List Value} {a0 : Nat} {w : qk_W} {nc ns : Nat} {Q : Option Value ⊕ Nat → qk_W → Nat → Nat → Prop}  (h8 : (st.map fun v => Value.category v).sum ≤ 8) (k : Ev (d + 1) m_Tr_init 4 [some (.ref a0)] st w nc ns Q) : Ev (d + 1) m_Tr_init 0 [some (.ref a0)] st w nc ns Q := by
  refine ev_aload_n d_Tr_init_0 rfl rfl ?_
  exact ev_obj d_Tr_init_1 ob_Tr_3 ob_inst ob_code (by omega) h8 k
theorem t_Tr_init_4 {d : Nat} {st : List Value} {v0 : Value} {w : qk_W} {nc ns : Nat} {Q : Option Value ⊕ Nat → qk_W → Nat → Nat → Prop} (hv0 : qk_isr v0 = true) (v : Nat) (hv : 16 ≤ v) (hn : w v = none) (k : Ev d m_Tr_init 8 [some v0] (.ref v :: v0 :: st) (qk_set w v (.inr (3, [.null, .int 0]))) (nc + 1) (ns + 2) Q) : Ev d m_Tr_init 4 [some v0] st w nc ns Q := by
  refine ev_aload_n d_Tr_init_4 rfl hv0 ?_
  exact ev_new v d_Tr_init_5 nl_Tr_9 hv hn k
theorem t_Tr_init_8 {d : Nat} {st : List Value} {o0 : Option Value} {b0 : Nat} {w : qk_W} {nc ns : Nat} {Q : Option Value ⊕ Nat → qk_W → Nat → Nat → Prop}  (h8 : ((.ref b0 :: st).map fun v => Value.category v).sum ≤ 8) (k : Ev d m_Ns_init 0 [some (.ref b0)] [] w nc ns (fun r w1 nc1 ns1 => match r with | .inl v => Ev (d + 1) m_Tr_init 12 [o0] (v.toList ++ (.ref b0 :: st)) w1 nc1 ns1 Q | .inr x => Q (.inr x) w1 nc1 ns1)) : Ev (d + 1) m_Tr_init 8 [o0] (.ref b0 :: st) w nc ns Q := by
  refine ev_dup d_Tr_init_8 rfl ?_
  exact ev_call (M' := m_Ns_init) (As := [.ref b0]) (st := (.ref b0 :: st)) d_Tr_init_9 i_Ns_init ii_Ns_init cw_Tr_11 rfl rfl trivial rfl (Nat.le_of_ble_eq_true rfl) h8 k
theorem t_Tr_init_12 {d : Nat} {st : List Value} {o0 : Option Value} {s0 : Value} {b1 : Nat} {fs2 : List Value} {w : qk_W} {nc ns : Nat} {Q : Option Value ⊕ Nat → qk_W → Nat → Nat → Prop} (hs0 : qk_isr s0 = true) (hw1 : wo w b1 6 fs2) (hk : 0 < fs2.length) (hz : qk_fit (qk_fty 6 0) s0 = true) (k : Ev d m_Tr_init 15 [o0] st (qk_set w b1 (.inr (6, fs2.set 0 (s0)))) nc ns Q) : Ev d m_Tr_init 12 [o0] (s0 :: .ref b1 :: st) w nc ns Q := by
  exact ev_putF d_Tr_init_12 fl_Tr_12 rfl rfl rfl hw1.1 hw1.2 hk hz k
theorem t_Tr_init_15 {d : Nat} {st : List Value} {v0 : Value} {w : qk_W} {nc ns : Nat} {Q : Option Value ⊕ Nat → qk_W → Nat → Nat → Prop} (hv0 : qk_isr v0 = true) (v : Nat) (hv : 16 ≤ v) (hn : w v = none) (k : Ev d m_Tr_init 21 [some v0] (.ref v :: v0 :: st) (qk_set w v (.inl (.object "QuakeLink$Page", 32, .inr (.inr (.inr (.inr (fun _ => none))))))) (nc + 1) (ns + 32) Q) : Ev d m_Tr_init 15 [some v0] st w nc ns Q := by
  refine ev_aload_n d_Tr_init_15 rfl hv0 ?_
  refine ev_bipush 32 d_Tr_init_16 (by decide) ?_
  exact ev_anew (n0 := 0) v d_Tr_init_18 al_Tr_18.1 al_Tr_18.2 (by decide) (by decide) (by decide) (by decide) hv hn k
theorem t_Tr_init_21 {d : Nat} {st : List Value} {o0 : Option Value} {s0 : Value} {b1 : Nat} {fs2 : List Value} {w : qk_W} {nc ns : Nat} {Q : Option Value ⊕ Nat → qk_W → Nat → Nat → Prop} (hs0 : qk_isr s0 = true) (hw1 : wo w b1 6 fs2) (hk : 2 < fs2.length) (hz : qk_fit (qk_fty 6 2) s0 = true) (k : Ev d m_Tr_init 24 [o0] st (qk_set w b1 (.inr (6, fs2.set 2 (s0)))) nc ns Q) : Ev d m_Tr_init 21 [o0] (s0 :: .ref b1 :: st) w nc ns Q := by
  exact ev_putF d_Tr_init_21 fl_Tr_20 rfl rfl rfl hw1.1 hw1.2 hk hz k
theorem t_Tr_init_24 {d : Nat} {o0 : Option Value} {w : qk_W} {nc ns : Nat} {Q : Option Value ⊕ Nat → qk_W → Nat → Nat → Prop}   (hq : Q (.inl none) w nc ns) : Ev d m_Tr_init 24 [o0] [] w nc ns Q := by
  exact ev_vret d_Tr_init_24 rfl hq
/-! Tr_startOfGapFrom -/
theorem cw_Tr_79 : qk_cw "QuakeLink$Track" m_Ns_next.1 (.invokevirtual 79) := ⟨(lw_i2 _ (List.mem_of_getElem? (i := 137) rfl)), (lw_i2 _ (List.mem_of_getElem? (i := 48) rfl)), (lw_i2 _ (List.mem_of_getElem? (i := 49) rfl))⟩
theorem cw_Tr_83 : qk_cw "QuakeLink$Track" m_Math_max.1 (.invokestatic 83) := ⟨Or.inl (lw_i2 _ (List.mem_of_getElem? (i := 138) rfl)), (lw_i1 _ (List.mem_of_getElem? (i := 204) rfl))⟩
theorem lc_Tr_75 : Cond.constant "QuakeLink$Track" 75 (32768) ∈ lw_tbl := (lw_i2 _ (List.mem_of_getElem? (i := 139) rfl))
theorem d_Tr_startOfGapFrom_0 : decode m_Tr_startOfGapFrom.2.1 0 = .ok (.aload_n 0, 1) := by decide +kernel
theorem d_Tr_startOfGapFrom_1 : decode m_Tr_startOfGapFrom.2.1 1 = .ok (.getfield 12, 3) := by decide +kernel
theorem d_Tr_startOfGapFrom_4 : decode m_Tr_startOfGapFrom.2.1 4 = .ok (.iload_n 1, 1) := by decide +kernel
theorem d_Tr_startOfGapFrom_5 : decode m_Tr_startOfGapFrom.2.1 5 = .ok (.aload_n 0, 1) := by decide +kernel
theorem d_Tr_startOfGapFrom_6 : decode m_Tr_startOfGapFrom.2.1 6 = .ok (.getfield 12, 3) := by decide +kernel
theorem d_Tr_startOfGapFrom_9 : decode m_Tr_startOfGapFrom.2.1 9 = .ok (.iconst 0, 1) := by decide +kernel
theorem d_Tr_startOfGapFrom_10 : decode m_Tr_startOfGapFrom.2.1 10 = .ok (.iconst 1, 1) := by decide +kernel
theorem d_Tr_startOfGapFrom_11 : decode m_Tr_startOfGapFrom.2.1 11 = .ok (.invokevirtual 79, 3) := by decide +kernel
theorem d_Tr_startOfGapFrom_14 : decode m_Tr_startOfGapFrom.2.1 14 = .ok (.invokestatic 83, 3) := by decide +kernel
theorem d_Tr_startOfGapFrom_17 : decode m_Tr_startOfGapFrom.2.1 17 = .ok (.iconst 0, 1) := by decide +kernel
theorem d_Tr_startOfGapFrom_18 : decode m_Tr_startOfGapFrom.2.1 18 = .ok (.invokevirtual 79, 3) := by decide +kernel
theorem d_Tr_startOfGapFrom_21 : decode m_Tr_startOfGapFrom.2.1 21 = .ok (.istore_n 2, 1) := by decide +kernel
theorem d_Tr_startOfGapFrom_22 : decode m_Tr_startOfGapFrom.2.1 22 = .ok (.aload_n 0, 1) := by decide +kernel
theorem d_Tr_startOfGapFrom_23 : decode m_Tr_startOfGapFrom.2.1 23 = .ok (.getfield 12, 3) := by decide +kernel
theorem d_Tr_startOfGapFrom_26 : decode m_Tr_startOfGapFrom.2.1 26 = .ok (.iload_n 2, 1) := by decide +kernel
theorem d_Tr_startOfGapFrom_27 : decode m_Tr_startOfGapFrom.2.1 27 = .ok (.iconst 1, 1) := by decide +kernel
theorem d_Tr_startOfGapFrom_28 : decode m_Tr_startOfGapFrom.2.1 28 = .ok (.invokevirtual 79, 3) := by decide +kernel
theorem d_Tr_startOfGapFrom_31 : decode m_Tr_startOfGapFrom.2.1 31 = .ok (.ldc 75, 2) := by decide +kernel
theorem d_Tr_startOfGapFrom_33 : decode m_Tr_startOfGapFrom.2.1 33 = .ok (.if_icmp .ne 8, 3) := by decide +kernel
theorem d_Tr_startOfGapFrom_36 : decode m_Tr_startOfGapFrom.2.1 36 = .ok (.ldc 75, 2) := by decide +kernel
theorem d_Tr_startOfGapFrom_38 : decode m_Tr_startOfGapFrom.2.1 38 = .ok (.goto 4, 3) := by decide +kernel
theorem d_Tr_startOfGapFrom_41 : decode m_Tr_startOfGapFrom.2.1 41 = .ok (.iload_n 2, 1) := by decide +kernel
theorem d_Tr_startOfGapFrom_42 : decode m_Tr_startOfGapFrom.2.1 42 = .ok (.ireturn, 1) := by decide +kernel
theorem t_Tr_startOfGapFrom_0 {d : Nat} {st : List Value} {a0 : Nat} {x1 : Int32} {o2 : Option Value} {fs2 : List Value} {c4 : Nat} {fsb : List Value} {w : qk_W} {nc ns : Nat} {Q : Option Value ⊕ Nat → qk_W → Nat → Nat → Prop}  (hw1 : wo w a0 6 fs2) (hf3 : fs2[0]? = some (.ref c4)) (hb : wo w c4 3 fsb) (h8 : ((.int x1 :: .ref c4 :: st).map fun v => Value.category v).sum ≤ 8) (k : Ev d m_Ns_next 0 [some (.ref c4), some (.int 0), some (.int 1), none, none, none, none] [] w nc ns (fun r w1 nc1 ns1 => match r with | .inl v => Ev (d + 1) m_Tr_startOfGapFrom 14 [some (.ref a0), some (.int x1), o2] (v.toList ++ (.int x1 :: .ref c4 :: st)) w1 nc1 ns1 Q | .inr x => Q (.inr x) w1 nc1 ns1)) : Ev (d + 1) m_Tr_startOfGapFrom 0 [some (.ref a0), some (.int x1), o2] st w nc ns Q := by
  refine ev_aload_n d_Tr_startOfGapFrom_0 rfl rfl ?_
  refine ev_getf d_Tr_startOfGapFrom_1 fl_Tr_12 hw1.1 hw1.2 hf3 ?_
  refine ev_iload_n d_Tr_startOfGapFrom_4 rfl ?_
  refine ev_aload_n d_Tr_startOfGapFrom_5 rfl rfl ?_
  refine ev_getf d_Tr_startOfGapFrom_6 fl_Tr_12 hw1.1 hw1.2 hf3 ?_
  refine ev_iconst 0 d_Tr_startOfGapFrom_9 (by decide) ?_
  refine ev_iconst 1 d_Tr_startOfGapFrom_10 (by decide) ?_
  exact ev_call (M' := m_Ns_next) (As := [.ref c4, .int 0, .int 1]) (st := (.int x1 :: .ref c4 :: st)) d_Tr_startOfGapFrom_11 i_Ns_next (fun h => absurd h (by decide +kernel)) cw_Tr_79 rfl rfl ⟨hb.1, 3, _, _, hb.2, rfl, rfl⟩ rfl (Nat.le_of_ble_eq_true rfl) h8 k
theorem t_Tr_startOfGapFrom_14 {d : Nat} {st : List Value} {o0 : Option Value} {o1 : Option Value} {o2 : Option Value} {y0 : Int32} {y1 : Int32} {w : qk_W} {nc ns : Nat} {Q : Option Value ⊕ Nat → qk_W → Nat → Nat → Prop}  (h8 : (st.map fun v => Value.category v).sum ≤ 8) (k : Ev d m_Math_max 0 [some (.int y1), some (.int y0)] [] w nc ns (fun r w1 nc1 ns1 => match r with | .inl v => Ev (d + 1) m_Tr_startOfGapFrom 17 [o0, o1, o2] (v.toList ++ st) w1 nc1 ns1 Q | .inr x => Q (.inr x) w1 nc1 ns1)) : Ev (d + 1) m_Tr_startOfGapFrom 14 [o0, o1, o2] (.int y0 :: .int y1 :: st) w nc ns Q := by
  exact ev_call (M' := m_Math_max) (As := [.int y1, .int y0]) (st := st) d_Tr_startOfGapFrom_14 i_Math_max (fun h => absurd h (by decide +kernel)) cw_Tr_83 rfl rfl trivial rfl (Nat.le_of_ble_eq_true rfl) h8 k
theorem t_Tr_startOfGapFrom_17 {d : Nat} {st : List Value} {o0 : Option Value} {o1 : Option Value} {o2 : Option Value} {y0 : Int32} {b1 : Nat} {fsb : List Value} {w : qk_W} {nc ns : Nat} {Q : Option Value ⊕ Nat → qk_W → Nat → Nat → Prop}  (hb : wo w b1 3 fsb) (h8 : (st.map fun v => Value.category v).sum ≤ 8) (k : Ev d m_Ns_next 0 [some (.ref b1), some (.int y0), some (.int 0), none, none, none, none] [] w nc ns (fun r w1 nc1 ns1 => match r with | .inl v => Ev (d + 1) m_Tr_startOfGapFrom 21 [o0, o1, o2] (v.toList ++ st) w1 nc1 ns1 Q | .inr x => Q (.inr x) w1 nc1 ns1)) : Ev (d + 1) m_Tr_startOfGapFrom 17 [o0, o1, o2] (.int y0 :: .ref b1 :: st) w nc ns Q := by
  refine ev_iconst 0 d_Tr_startOfGapFrom_17 (by decide) ?_
  exact ev_call (M' := m_Ns_next) (As := [.ref b1, .int y0, .int 0]) (st := st) d_Tr_startOfGapFrom_18 i_Ns_next (fun h => absurd h (by decide +kernel)) cw_Tr_79 rfl rfl ⟨hb.1, 3, _, _, hb.2, rfl, rfl⟩ rfl (Nat.le_of_ble_eq_true rfl) h8 k
theorem t_Tr_startOfGapFrom_21 {d : Nat} {st : List Value} {a0 : Nat} {o1 : Option Value} {o2 : Option Value} {y0 : Int32} {fs3 : List Value} {c5 : Nat} {fsb : List Value} {w : qk_W} {nc ns : Nat} {Q : Option Value ⊕ Nat → qk_W → Nat → Nat → Prop}  (hc1 : qk_c2 [some (.ref a0), o1, o2] 2 = true) (hw2 : wo w a0 6 fs3) (hf4 : fs3[0]? = some (.ref c5)) (hb : wo w c5 3 fsb) (h8 : (st.map fun v => Value.category v).sum ≤ 8) (k : Ev d m_Ns_next 0 [some (.ref c5), some (.int y0), some (.int 1), none, none, none, none] [] w nc ns (fun r w1 nc1 ns1 => match r with | .inl v => Ev (d + 1) m_Tr_startOfGapFrom 31 [some (.ref a0), o1, some (.int y0)] (v.toList ++ st) w1 nc1 ns1 Q | .inr x => Q (.inr x) w1 nc1 ns1)) : Ev (d + 1) m_Tr_startOfGapFrom 21 [some (.ref a0), o1, o2] (.int y0 :: st) w nc ns Q := by
  refine ev_istore_n d_Tr_startOfGapFrom_21 (by decide) hc1 ?_
  refine ev_aload_n d_Tr_startOfGapFrom_22 rfl rfl ?_
  refine ev_getf d_Tr_startOfGapFrom_23 fl_Tr_12 hw2.1 hw2.2 hf4 ?_
  refine ev_iload_n d_Tr_startOfGapFrom_26 rfl ?_
  refine ev_iconst 1 d_Tr_startOfGapFrom_27 (by decide) ?_
  exact ev_call (M' := m_Ns_next) (As := [.ref c5, .int y0, .int 1]) (st := st) d_Tr_startOfGapFrom_28 i_Ns_next (fun h => absurd h (by decide +kernel)) cw_Tr_79 rfl rfl ⟨hb.1, 3, _, _, hb.2, rfl, rfl⟩ rfl (Nat.le_of_ble_eq_true rfl) h8 k
theorem t_Tr_startOfGapFrom_31 {d : Nat} {st : List Value} {o0 : Option Value} {o1 : Option Value} {o2 : Option Value} {y0 : Int32} {w : qk_W} {nc ns : Nat} {Q : Option Value ⊕ Nat → qk_W → Nat → Nat → Prop}   (kt : ¬ y0 = (32768 : Int32) → Ev d m_Tr_startOfGapFrom 41 [o0, o1, o2] st w nc ns Q) (kf : y0 = (32768 : Int32) → Ev d m_Tr_startOfGapFrom 36 [o0, o1, o2] st w nc ns Q) : Ev d m_Tr_startOfGapFrom 31 [o0, o1, o2] (.int y0 :: st) w nc ns Q := by
  refine ev_ldc 32768 d_Tr_startOfGapFrom_31 lc_Tr_75 ?_
  exact ev_icmp_ne 41 d_Tr_startOfGapFrom_33 (by decide) kt kf
theorem t_Tr_startOfGapFrom_36 {d : Nat} {o0 : Option Value} {o1 : Option Value} {o2 : Option Value} {w : qk_W} {nc ns : Nat} {Q : Option Value ⊕ Nat → qk_W → Nat → Nat → Prop}   (hq : Q (.inl (some (.int 32768))) w nc ns) : Ev d m_Tr_startOfGapFrom 36 [o0, o1, o2] [] w nc ns Q := by
  refine ev_ldc 32768 d_Tr_startOfGapFrom_36 lc_Tr_75 ?_
  refine ev_goto 42 d_Tr_startOfGapFrom_38 (by decide) ?_
  exact ev_iret d_Tr_startOfGapFrom_42 rfl rfl hq
theorem t_Tr_startOfGapFrom_41 {d : Nat} {o0 : Option Value} {o1 : Option Value} {x2 : Int32} {w : qk_W} {nc ns : Nat} {Q : Option Value ⊕ Nat → qk_W → Nat → Nat → Prop}   (hq : Q (.inl (some (.int x2))) w nc ns) : Ev d m_Tr_startOfGapFrom 41 [o0, o1, some (.int x2)] [] w nc ns Q := by
  refine ev_iload_n d_Tr_startOfGapFrom_41 rfl ?_
  exact ev_iret d_Tr_startOfGapFrom_42 rfl rfl hq
/-! Tr_endOfGap -/
theorem d_Tr_endOfGap_0 : decode m_Tr_endOfGap.2.1 0 = .ok (.aload_n 0, 1) := by decide +kernel
theorem d_Tr_endOfGap_1 : decode m_Tr_endOfGap.2.1 1 = .ok (.getfield 12, 3) := by decide +kernel
theorem d_Tr_endOfGap_4 : decode m_Tr_endOfGap.2.1 4 = .ok (.iload_n 1, 1) := by decide +kernel
theorem d_Tr_endOfGap_5 : decode m_Tr_endOfGap.2.1 5 = .ok (.iconst 1, 1) := by decide +kernel
theorem d_Tr_endOfGap_6 : decode m_Tr_endOfGap.2.1 6 = .ok (.invokevirtual 79, 3) := by decide +kernel
theorem d_Tr_endOfGap_9 : decode m_Tr_endOfGap.2.1 9 = .ok (.iconst 1, 1) := by decide +kernel
theorem d_Tr_endOfGap_10 : decode m_Tr_endOfGap.2.1 10 = .ok (.isub, 1) := by decide +kernel
theorem d_Tr_endOfGap_11 : decode m_Tr_endOfGap.2.1 11 = .ok (.ireturn, 1) := by decide +kernel
theorem t_Tr_endOfGap_0 {d : Nat} {st : List Value} {a0 : Nat} {x1 : Int32} {fs2 : List Value} {c4 : Nat} {fsb : List Value} {w : qk_W} {nc ns : Nat} {Q : Option Value ⊕ Nat → qk_W → Nat → Nat → Prop}  (hw1 : wo w a0 6 fs2) (hf3 : fs2[0]? = some (.ref c4)) (hb : wo w c4 3 fsb) (h8 : (st.map fun v => Value.category v).sum ≤ 8) (k : Ev d m_Ns_next 0 [some (.ref c4), some (.int x1), some (.int 1), none, none, none, none] [] w nc ns (fun r w1 nc1 ns1 => match r with | .inl v => Ev (d + 1) m_Tr_endOfGap 9 [some (.ref a0), some (.int x1)] (v.toList ++ st) w1 nc1 ns1 Q | .inr x => Q (.inr x) w1 nc1 ns1)) : Ev (d + 1) m_Tr_endOfGap 0 [some (.ref a0), some (.int x1)] st w nc ns Q := by
  refine ev_aload_n d_Tr_endOfGap_0 rfl rfl ?_
  refine ev_getf d_Tr_endOfGap_1 fl_Tr_12 hw1.1 hw1.2 hf3 ?_
  refine ev_iload_n d_Tr_endOfGap_4 rfl ?_
  refine ev_iconst 1 d_Tr_endOfGap_5 (by decide) ?_
  exact ev_call (M' := m_Ns_next) (As := [.ref c4, .int x1, .int 1]) (st := st) d_Tr_endOfGap_6 i_Ns_next (fun h => absurd h (by decide +kernel)) cw_Tr_79 rfl rfl ⟨hb.1, 3, _, _, hb.2, rfl, rfl⟩ rfl (Nat.le_of_ble_eq_true rfl) h8 k
theorem t_Tr_endOfGap_9 {d : Nat} {o0 : Option Value} {o1 : Option Value} {y0 : Int32} {w : qk_W} {nc ns : Nat} {Q : Option Value ⊕ Nat → qk_W → Nat → Nat → Prop}   (hq : Q (.inl (some (.int (y0 - 1)))) w nc ns) : Ev d m_Tr_endOfGap 9 [o0, o1] [.int y0] w nc ns Q := by
  refine ev_iconst 1 d_Tr_endOfGap_9 (by decide) ?_
  refine ev_isub d_Tr_endOfGap_10 ?_
  exact ev_iret d_Tr_endOfGap_11 rfl rfl hq
/-! Tr_clashes -/
theorem nl_Tr_40 : qk_nl "QuakeLink$Track" 40 9 [.int 0, .null, .int 0, .int 0, .long 0, .int 0, .int 0, .int 0, .int 0] := ⟨_, rfl, by decide, (lw_i3 _ (List.mem_of_getElem? (i := 223) rfl)), rfl, rfl⟩
theorem cw_Tr_42 : qk_cw "QuakeLink$Track" m_De_init.1 (.invokespecial 42) := ⟨rfl, Or.inl (lw_i3 _ (List.mem_of_getElem? (i := 224) rfl)), (lw_i3 _ (List.mem_of_getElem? (i := 162) rfl))⟩
theorem cw_Tr_45 : qk_cw "QuakeLink$Track" m_Me_value.1 (.invokevirtual 45) := ⟨(lw_i3 _ (List.mem_of_getElem? (i := 225) rfl)), (lw_i3 _ (List.mem_of_getElem? (i := 142) rfl)), (lw_i3 _ (List.mem_of_getElem? (i := 143) rfl))⟩
theorem cw_Tr_51 : qk_cw "QuakeLink$Track" m_Me_number.1 (.invokevirtual 51) := ⟨(lw_i3 _ (List.mem_of_getElem? (i := 226) rfl)), (lw_i3 _ (List.mem_of_getElem? (i := 146) rfl)), (lw_i3 _ (List.mem_of_getElem? (i := 147) rfl))⟩
theorem cw_Tr_24 : qk_cw "QuakeLink$Track" m_Ns_contains.1 (.invokevirtual 24) := ⟨(lw_i3 _ (List.mem_of_getElem? (i := 227) rfl)), (lw_i3 _ (List.mem_of_getElem? (i := 228) rfl)), (lw_i3 _ (List.mem_of_getElem? (i := 229) rfl))⟩
theorem cw_Tr_55 : qk_cw "QuakeLink$Track" m_Tr_valueOf.1 (.invokevirtual 55) := ⟨(lw_i3 _ (List.mem_of_getElem? (i := 231) rfl)), (lw_i3 _ (List.mem_of_getElem? (i := 232) rfl)), (lw_i3 _ (List.mem_of_getElem? (i := 233) rfl))⟩
theorem fl_Tr_58 : qk_fl "QuakeLink$Track" 58 9 0 := ⟨_, rfl, by decide, rfl, (lw_i3 _ (List.mem_of_getElem? (i := 167) rfl))⟩
theorem cw_Tr_61 : qk_cw "QuakeLink$Track" m_De_advance.1 (.invokevirtual 61) := ⟨(lw_i4 _ (List.mem_of_getElem? (i := 13) rfl)), (lw_i3 _ (List.mem_of_getElem? (i := 197) rfl)), (lw_i3 _ (List.mem_of_getElem? (i := 198) rfl))⟩
theorem d_Tr_clashes_0 : decode m_Tr_clashes.2.1 0 = .ok (.new 40, 3) := by decide +kernel
theorem d_Tr_clashes_3 : decode m_Tr_clashes.2.1 3 = .ok (.dup, 1) := by decide +kernel
theorem d_Tr_clashes_4 : decode m_Tr_clashes.2.1 4 = .ok (.aload_n 1, 1) := by decide +kernel
theorem d_Tr_clashes_5 : decode m_Tr_clashes.2.1 5 = .ok (.invokespecial 42, 3) := by decide +kernel
theorem d_Tr_clashes_8 : decode m_Tr_clashes.2.1 8 = .ok (.astore_n 2, 1) := by decide +kernel
theorem d_Tr_clashes_9 : decode m_Tr_clashes.2.1 9 = .ok (.aload_n 1, 1) := by decide +kernel
theorem d_Tr_clashes_10 : decode m_Tr_clashes.2.1 10 = .ok (.bipush 8, 2) := by decide +kernel
theorem d_Tr_clashes_12 : decode m_Tr_clashes.2.1 12 = .ok (.invokevirtual 45, 3) := by decide +kernel
theorem d_Tr_clashes_15 : decode m_Tr_clashes.2.1 15 = .ok (.istore_n 3, 1) := by decide +kernel
theorem d_Tr_clashes_16 : decode m_Tr_clashes.2.1 16 = .ok (.iload_n 3, 1) := by decide +kernel
theorem d_Tr_clashes_17 : decode m_Tr_clashes.2.1 17 = .ok (.aload_n 1, 1) := by decide +kernel
theorem d_Tr_clashes_18 : decode m_Tr_clashes.2.1 18 = .ok (.iconst 2, 1) := by decide +kernel
theorem d_Tr_clashes_19 : decode m_Tr_clashes.2.1 19 = .ok (.iconst 2, 1) := by decide +kernel
theorem d_Tr_clashes_20 : decode m_Tr_clashes.2.1 20 = .ok (.invokevirtual 51, 3) := by decide +kernel
theorem d_Tr_clashes_23 : decode m_Tr_clashes.2.1 23 = .ok (.l2i, 1) := by decide +kernel
theorem d_Tr_clashes_24 : decode m_Tr_clashes.2.1 24 = .ok (.iadd, 1) := by decide +kernel
theorem d_Tr_clashes_25 : decode m_Tr_clashes.2.1 25 = .ok (.istore 4, 2) := by decide +kernel
theorem d_Tr_clashes_27 : decode m_Tr_clashes.2.1 27 = .ok (.iload_n 3, 1) := by decide +kernel
theorem d_Tr_clashes_28 : decode m_Tr_clashes.2.1 28 = .ok (.istore 5, 2) := by decide +kernel
theorem d_Tr_clashes_30 : decode m_Tr_clashes.2.1 30 = .ok (.iload 5, 2) := by decide +kernel
theorem d_Tr_clashes_32 : decode m_Tr_clashes.2.1 32 = .ok (.iload 4, 2) := by decide +kernel
theorem d_Tr_clashes_34 : decode m_Tr_clashes.2.1 34 = .ok (.if_icmp .ge 41, 3) := by decide +kernel
theorem d_Tr_clashes_37 : decode m_Tr_clashes.2.1 37 = .ok (.aload_n 0, 1) := by decide +kernel
theorem d_Tr_clashes_38 : decode m_Tr_clashes.2.1 38 = .ok (.getfield 12, 3) := by decide +kernel
theorem d_Tr_clashes_41 : decode m_Tr_clashes.2.1 41 = .ok (.iload 5, 2) := by decide +kernel
theorem d_Tr_clashes_43 : decode m_Tr_clashes.2.1 43 = .ok (.invokevirtual 24, 3) := by decide +kernel
theorem d_Tr_clashes_46 : decode m_Tr_clashes.2.1 46 = .ok (.ifCond .eq 18, 3) := by decide +kernel
theorem d_Tr_clashes_49 : decode m_Tr_clashes.2.1 49 = .ok (.aload_n 0, 1) := by decide +kernel
theorem d_Tr_clashes_50 : decode m_Tr_clashes.2.1 50 = .ok (.iload 5, 2) := by decide +kernel
theorem d_Tr_clashes_52 : decode m_Tr_clashes.2.1 52 = .ok (.invokevirtual 55, 3) := by decide +kernel
theorem d_Tr_clashes_55 : decode m_Tr_clashes.2.1 55 = .ok (.aload_n 2, 1) := by decide +kernel
theorem d_Tr_clashes_56 : decode m_Tr_clashes.2.1 56 = .ok (.getfield 58, 3) := by decide +kernel
theorem d_Tr_clashes_59 : decode m_Tr_clashes.2.1 59 = .ok (.if_icmp .eq 5, 3) := by decide +kernel
theorem d_Tr_clashes_62 : decode m_Tr_clashes.2.1 62 = .ok (.iconst 1, 1) := by decide +kernel
theorem d_Tr_clashes_63 : decode m_Tr_clashes.2.1 63 = .ok (.ireturn, 1) := by decide +kernel
theorem d_Tr_clashes_64 : decode m_Tr_clashes.2.1 64 = .ok (.aload_n 2, 1) := by decide +kernel
theorem d_Tr_clashes_65 : decode m_Tr_clashes.2.1 65 = .ok (.invokevirtual 61, 3) := by decide +kernel
theorem d_Tr_clashes_68 : decode m_Tr_clashes.2.1 68 = .ok (.pop, 1) := by decide +kernel
theorem d_Tr_clashes_69 : decode m_Tr_clashes.2.1 69 = .ok (.iinc 5 1, 3) := by decide +kernel
theorem d_Tr_clashes_72 : decode m_Tr_clashes.2.1 72 = .ok (.goto (-42), 3) := by decide +kernel
theorem d_Tr_clashes_75 : decode m_Tr_clashes.2.1 75 = .ok (.iconst 0, 1) := by decide +kernel
theorem d_Tr_clashes_76 : decode m_Tr_clashes.2.1 76 = .ok (.ireturn, 1) := by decide +kernel
theorem t_Tr_clashes_0 {d : Nat} {st : List Value} {o0 : Option Value} {o1 : Option Value} {o2 : Option Value} {o3 : Option Value} {o4 : Option Value} {o5 : Option Value} {w : qk_W} {nc ns : Nat} {Q : Option Value ⊕ Nat → qk_W → Nat → Nat → Prop}  (v : Nat) (hv : 16 ≤ v) (hn : w v = none) (k : Ev d m_Tr_clashes 3 [o0, o1, o2, o3, o4, o5] (.ref v :: st) (qk_set w v (.inr (9, [.int 0, .null, .int 0, .int 0, .long 0, .int 0, .int 0, .int 0, .int 0]))) (nc + 1) (ns + 9) Q) : Ev d m_Tr_clashes 0 [o0, o1, o2, o3, o4, o5] st w nc ns Q := by
  exact ev_new v d_Tr_clashes_0 nl_Tr_40 hv hn k
theorem t_Tr_clashes_3 {d : Nat} {st : List Value} {o0 : Option Value} {a1 : Nat} {o2 : Option Value} {o3 : Option Value} {o4 : Option Value} {o5 : Option Value} {b0 : Nat} {w : qk_W} {nc ns : Nat} {Q : Option Value ⊕ Nat → qk_W → Nat → Nat → Prop}  (h8 : ((.ref b0 :: st).map fun v => Value.category v).sum ≤ 8) (k : Ev d m_De_init 0 [some (.ref b0), some (.ref a1)] [] w nc ns (fun r w1 nc1 ns1 => match r with | .inl v => Ev (d + 1) m_Tr_clashes 8 [o0, some (.ref a1), o2, o3, o4, o5] (v.toList ++ (.ref b0 :: st)) w1 nc1 ns1 Q | .inr x => Q (.inr x) w1 nc1 ns1)) : Ev (d + 1) m_Tr_clashes 3 [o0, some (.ref a1), o2, o3, o4, o5] (.ref b0 :: st) w nc ns Q := by
  refine ev_dup d_Tr_clashes_3 rfl ?_
  refine ev_aload_n d_Tr_clashes_4 rfl rfl ?_
  exact ev_call (M' := m_De_init) (As := [.ref b0, .ref a1]) (st := (.ref b0 :: st)) d_Tr_clashes_5 i_De_init ii_De_init cw_Tr_42 rfl rfl trivial rfl (Nat.le_of_ble_eq_true rfl) h8 k
theorem t_Tr_clashes_8 {d : Nat} {st : List Value} {o0 : Option Value} {a1 : Nat} {o2 : Option Value} {o3 : Option Value} {o4 : Option Value} {o5 : Option Value} {s0 : Value} {fsb : List Value} {w : qk_W} {nc ns : Nat} {Q : Option Value ⊕ Nat → qk_W → Nat → Nat → Prop} (hs0 : qk_isr s0 = true) (hc1 : qk_c2 [o0, some (.ref a1), o2, o3, o4, o5] 2 = true) (hb : wo w a1 8 fsb) (h8 : (st.map fun v => Value.category v).sum ≤ 8) (k : Ev d m_Me_value 0 [some (.ref a1), some (.int 8)] [] w nc ns (fun r w1 nc1 ns1 => match r with | .inl v => Ev (d + 1) m_Tr_clashes 15 [o0, some (.ref a1), some s0, o3, o4, o5] (v.toList ++ st) w1 nc1 ns1 Q | .inr x => Q (.inr x) w1 nc1 ns1)) : Ev (d + 1) m_Tr_clashes 8 [o0, some (.ref a1), o2, o3, o4, o5] (s0 :: st) w nc ns Q := by
  refine ev_astore_n d_Tr_clashes_8 hs0 (by decide) hc1 ?_
  refine ev_aload_n d_Tr_clashes_9 rfl rfl ?_
  refine ev_bipush 8 d_Tr_clashes_10 (by decide) ?_
  exact ev_call (M' := m_Me_value) (As := [.ref a1, .int 8]) (st := st) d_Tr_clashes_12 i_Me_value (fun h => absurd h (by decide +kernel)) cw_Tr_45 rfl rfl ⟨hb.1, 8, _, _, hb.2, rfl, rfl⟩ rfl (Nat.le_of_ble_eq_true rfl) h8 k
theorem t_Tr_clashes_15 {d : Nat} {st : List Value} {o0 : Option Value} {a1 : Nat} {o2 : Option Value} {o3 : Option Value} {o4 : Option Value} {o5 : Option Value} {y0 : Int32} {fsb : List Value} {w : qk_W} {nc ns : Nat} {Q : Option Value ⊕ Nat → qk_W → Nat → Nat → Prop}  (hc1 : qk_c2 [o0, some (.ref a1), o2, o3, o4, o5] 3 = true) (hb : wo w a1 8 fsb) (h8 : ((.int y0 :: st).map fun v => Value.category v).sum ≤ 8) (k : Ev d m_Me_number 0 [some (.ref a1), some (.int 2), some (.int 2), none, none, none] [] w nc ns (fun r w1 nc1 ns1 => match r with | .inl v => Ev (d + 1) m_Tr_clashes 23 [o0, some (.ref a1), o2, some (.int y0), o4, o5] (v.toList ++ (.int y0 :: st)) w1 nc1 ns1 Q | .inr x => Q (.inr x) w1 nc1 ns1)) : Ev (d + 1) m_Tr_clashes 15 [o0, some (.ref a1), o2, o3, o4, o5] (.int y0 :: st) w nc ns Q := by
  refine ev_istore_n d_Tr_clashes_15 (by decide) hc1 ?_
  refine ev_iload_n d_Tr_clashes_16 rfl ?_
  refine ev_aload_n d_Tr_clashes_17 rfl rfl ?_
  refine ev_iconst 2 d_Tr_clashes_18 (by decide) ?_
  refine ev_iconst 2 d_Tr_clashes_19 (by decide) ?_
  exact ev_call (M' := m_Me_number) (As := [.ref a1, .int 2, .int 2]) (st := (.int y0 :: st)) d_Tr_clashes_20 i_Me_number (fun h => absurd h (by decide +kernel)) cw_Tr_51 rfl rfl ⟨hb.1, 8, _, _, hb.2, rfl, rfl⟩ rfl (Nat.le_of_ble_eq_true rfl) h8 k
theorem t_Tr_clashes_23 {d : Nat} {st : List Value} {o0 : Option Value} {o1 : Option Value} {o2 : Option Value} {x3 : Int32} {o4 : Option Value} {o5 : Option Value} {y0 : Int64} {y1 : Int32} {w : qk_W} {nc ns : Nat} {Q : Option Value ⊕ Nat → qk_W → Nat → Nat → Prop}  (hc1 : qk_c2 [o0, o1, o2, some (.int x3), o4, o5] 4 = true) (k : Ev d m_Tr_clashes 30 [o0, o1, o2, some (.int x3), some (.int (y1 + (Int64.toInt32 y0))), some (.int x3)] st w nc ns Q) : Ev d m_Tr_clashes 23 [o0, o1, o2, some (.int x3), o4, o5] (.long y0 :: .int y1 :: st) w nc ns Q := by
  refine ev_l2i d_Tr_clashes_23 ?_
  refine ev_iadd d_Tr_clashes_24 ?_
  refine ev_istore d_Tr_clashes_25 (by decide) hc1 ?_
  refine ev_iload_n d_Tr_clashes_27 rfl ?_
  refine ev_istore d_Tr_clashes_28 (by decide) rfl ?_
  exact k
theorem t_Tr_clashes_30 {d : Nat} {st : List Value} {o0 : Option Value} {o1 : Option Value} {o2 : Option Value} {o3 : Option Value} {x4 : Int32} {x5 : Int32} {w : qk_W} {nc ns : Nat} {Q : Option Value ⊕ Nat → qk_W → Nat → Nat → Prop}   (kt : x4 ≤ x5 → Ev d m_Tr_clashes 75 [o0, o1, o2, o3, some (.int x4), some (.int x5)] st w nc ns Q) (kf : ¬ (x4 ≤ x5) → Ev d m_Tr_clashes 37 [o0, o1, o2, o3, some (.int x4), some (.int x5)] st w nc ns Q) : Ev d m_Tr_clashes 30 [o0, o1, o2, o3, some (.int x4), some (.int x5)] st w nc ns Q := by
  refine ev_iload d_Tr_clashes_30 rfl ?_
  refine ev_iload d_Tr_clashes_32 rfl ?_
  exact ev_icmp_ge 75 d_Tr_clashes_34 (by decide) kt kf
theorem t_Tr_clashes_37 {d : Nat} {st : List Value} {a0 : Nat} {o1 : Option Value} {o2 : Option Value} {o3 : Option Value} {o4 : Option Value} {x5 : Int32} {fs2 : List Value} {c4 : Nat} {fsb : List Value} {w : qk_W} {nc ns : Nat} {Q : Option Value ⊕ Nat → qk_W → Nat → Nat → Prop}  (hw1 : wo w a0 6 fs2) (hf3 : fs2[0]? = some (.ref c4)) (hb : wo w c4 3 fsb) (h8 : (st.map fun v => Value.category v).sum ≤ 8) (k : Ev d m_Ns_contains 0 [some (.ref c4), some (.int x5)] [] w nc ns (fun r w1 nc1 ns1 => match r with | .inl v => Ev (d + 1) m_Tr_clashes 46 [some (.ref a0), o1, o2, o3, o4, some (.int x5)] (v.toList ++ st) w1 nc1 ns1 Q | .inr x => Q (.inr x) w1 nc1 ns1)) : Ev (d + 1) m_Tr_clashes 37 [some (.ref a0), o1, o2, o3, o4, some (.int x5)] st w nc ns Q := by
  refine ev_aload_n d_Tr_clashes_37 rfl rfl ?_
  refine ev_getf d_Tr_clashes_38 fl_Tr_12 hw1.1 hw1.2 hf3 ?_
  refine ev_iload d_Tr_clashes_41 rfl ?_
  exact ev_call (M' := m_Ns_contains) (As := [.ref c4, .int x5]) (st := st) d_Tr_clashes_43 i_Ns_contains (fun h => absurd h (by decide +kernel)) cw_Tr_24 rfl rfl ⟨hb.1, 3, _, _, hb.2, rfl, rfl⟩ rfl (Nat.le_of_ble_eq_true rfl) h8 k
theorem t_Tr_clashes_46 {d : Nat} {st : List Value} {o0 : Option Value} {o1 : Option Value} {o2 : Option Value} {o3 : Option Value} {o4 : Option Value} {o5 : Option Value} {y0 : Int32} {w : qk_W} {nc ns : Nat} {Q : Option Value ⊕ Nat → qk_W → Nat → Nat → Prop}   (kt : y0 = 0 → Ev d m_Tr_clashes 64 [o0, o1, o2, o3, o4, o5] st w nc ns Q) (kf : ¬ (y0 = 0) → Ev d m_Tr_clashes 49 [o0, o1, o2, o3, o4, o5] st w nc ns Q) : Ev d m_Tr_clashes 46 [o0, o1, o2, o3, o4, o5] (.int y0 :: st) w nc ns Q := by
  exact ev_if_eq 64 d_Tr_clashes_46 (by decide) kt kf
theorem t_Tr_clashes_49 {d : Nat} {st : List Value} {a0 : Nat} {o1 : Option Value} {o2 : Option Value} {o3 : Option Value} {o4 : Option Value} {x5 : Int32} {fsb : List Value} {w : qk_W} {nc ns : Nat} {Q : Option Value ⊕ Nat → qk_W → Nat → Nat → Prop}  (hb : wo w a0 6 fsb) (h8 : (st.map fun v => Value.category v).sum ≤ 8) (k : Ev d m_Tr_valueOf 0 [some (.ref a0), some (.int x5)] [] w nc ns (fun r w1 nc1 ns1 => match r with | .inl v => Ev (d + 1) m_Tr_clashes 55 [some (.ref a0), o1, o2, o3, o4, some (.int x5)] (v.toList ++ st) w1 nc1 ns1 Q | .inr x => Q (.inr x) w1 nc1 ns1)) : Ev (d + 1) m_Tr_clashes 49 [some (.ref a0), o1, o2, o3, o4, some (.int x5)] st w nc ns Q := by
  refine ev_aload_n d_Tr_clashes_49 rfl rfl ?_
  refine ev_iload d_Tr_clashes_50 rfl ?_
  exact ev_call (M' := m_Tr_valueOf) (As := [.ref a0, .int x5]) (st := st) d_Tr_clashes_52 i_Tr_valueOf (fun h => absurd h (by decide +kernel)) cw_Tr_55 rfl rfl ⟨hb.1, 6, _, _, hb.2, rfl, rfl⟩ rfl (Nat.le_of_ble_eq_true rfl) h8 k
theorem t_Tr_clashes_55 {d : Nat} {st : List Value} {o0 : Option Value} {o1 : Option Value} {a2 : Nat} {o3 : Option Value} {o4 : Option Value} {o5 : Option Value} {y0 : Int32} {fs2 : List Value} {n4 : Int32} {w : qk_W} {nc ns : Nat} {Q : Option Value ⊕ Nat → qk_W → Nat → Nat → Prop}  (hw1 : wo w a2 9 fs2) (hf3 : fs2[0]? = some (.int n4)) (kt : y0 = n4 → Ev d m_Tr_clashes 64 [o0, o1, some (.ref a2), o3, o4, o5] st w nc ns Q) (kf : ¬ (y0 = n4) → Ev d m_Tr_clashes 62 [o0, o1, some (.ref a2), o3, o4, o5] st w nc ns Q) : Ev d m_Tr_clashes 55 [o0, o1, some (.ref a2), o3, o4, o5] (.int y0 :: st) w nc ns Q := by
  refine ev_aload_n d_Tr_clashes_55 rfl rfl ?_
  refine ev_getf d_Tr_clashes_56 fl_Tr_58 hw1.1 hw1.2 hf3 ?_
  exact ev_icmp_eq 64 d_Tr_clashes_59 (by decide) kt kf
theorem t_Tr_clashes_62 {d : Nat} {o0 : Option Value} {o1 : Option Value} {o2 : Option Value} {o3 : Option Value} {o4 : Option Value} {o5 : Option Value} {w : qk_W} {nc ns : Nat} {Q : Option Value ⊕ Nat → qk_W → Nat → Nat → Prop}   (hq : Q (.inl (some (.int 1))) w nc ns) : Ev d m_Tr_clashes 62 [o0, o1, o2, o3, o4, o5] [] w nc ns Q := by
  refine ev_iconst 1 d_Tr_clashes_62 (by decide) ?_
  exact ev_iret d_Tr_clashes_63 rfl rfl hq
theorem t_Tr_clashes_64 {d : Nat} {st : List Value} {o0 : Option Value} {o1 : Option Value} {a2 : Nat} {o3 : Option Value} {o4 : Option Value} {o5 : Option Value} {fsb : List Value} {w : qk_W} {nc ns : Nat} {Q : Option Value ⊕ Nat → qk_W → Nat → Nat → Prop}  (hb : wo w a2 9 fsb) (h8 : (st.map fun v => Value.category v).sum ≤ 8) (k : Ev d m_De_advance 0 [some (.ref a2), none] [] w nc ns (fun r w1 nc1 ns1 => match r with | .inl v => Ev (d + 1) m_Tr_clashes 68 [o0, o1, some (.ref a2), o3, o4, o5] (v.toList ++ st) w1 nc1 ns1 Q | .inr x => Q (.inr x) w1 nc1 ns1)) : Ev (d + 1) m_Tr_clashes 64 [o0, o1, some (.ref a2), o3, o4, o5] st w nc ns Q := by
  refine ev_aload_n d_Tr_clashes_64 rfl rfl ?_
  exact ev_call (M' := m_De_advance) (As := [.ref a2]) (st := st) d_Tr_clashes_65 i_De_advance (fun h => absurd h (by decide +kernel)) cw_Tr_61 rfl rfl ⟨hb.1, 9, _, _, hb.2, rfl, rfl⟩ rfl (Nat.le_of_ble_eq_true rfl) h8 k
theorem t_Tr_clashes_68 {d : Nat} {st : List Value} {o0 : Option Value} {o1 : Option Value} {o2 : Option Value} {o3 : Option Value} {o4 : Option Value} {x5 : Int32} {y0 : Int32} {w : qk_W} {nc ns : Nat} {Q : Option Value ⊕ Nat → qk_W → Nat → Nat → Prop}  (hc1 : qk_c2 [o0, o1, o2, o3, o4, some (.int x5)] 5 = true) (k : Ev d m_Tr_clashes 30 [o0, o1, o2, o3, o4, some (.int (x5 + 1))] st w nc ns Q) : Ev d m_Tr_clashes 68 [o0, o1, o2, o3, o4, some (.int x5)] (.int y0 :: st) w nc ns Q := by
  refine ev_pop d_Tr_clashes_68 rfl ?_
  refine ev_iinc 1 d_Tr_clashes_69 (by decide) rfl (by decide) hc1 ?_
  refine ev_goto 30 d_Tr_clashes_72 (by decide) ?_
  exact k
theorem t_Tr_clashes_75 {d : Nat} {o0 : Option Value} {o1 : Option Value} {o2 : Option Value} {o3 : Option Value} {o4 : Option Value} {o5 : Option Value} {w : qk_W} {nc ns : Nat} {Q : Option Value ⊕ Nat → qk_W → Nat → Nat → Prop}   (hq : Q (.inl (some (.int 0))) w nc ns) : Ev d m_Tr_clashes 75 [o0, o1, o2, o3, o4, o5] [] w nc ns Q := by
  refine ev_iconst 0 d_Tr_clashes_75 (by decide) ?_
  exact ev_iret d_Tr_clashes_76 rfl rfl hq
/-! Tr_valueOf -/
theorem cw_Tr_28 : qk_cw "QuakeLink$Track" m_Tr_page.1 (.invokevirtual 28) := ⟨(lw_i3 _ (List.mem_of_getElem? (i := 235) rfl)), (lw_i3 _ (List.mem_of_getElem? (i := 237) rfl)), (lw_i0 _ (List.mem_of_getElem? (i := 18) rfl))⟩
theorem fl_Tr_32 : qk_fl "QuakeLink$Track" 32 10 0 := ⟨_, rfl, by decide, rfl, (lw_i4 _ (List.mem_of_getElem? (i := 5) rfl))⟩
theorem d_Tr_valueOf_0 : decode m_Tr_valueOf.2.1 0 = .ok (.aload_n 0, 1) := by decide +kernel
theorem d_Tr_valueOf_1 : decode m_Tr_valueOf.2.1 1 = .ok (.getfield 12, 3) := by decide +kernel
theorem d_Tr_valueOf_4 : decode m_Tr_valueOf.2.1 4 = .ok (.iload_n 1, 1) := by decide +kernel
theorem d_Tr_valueOf_5 : decode m_Tr_valueOf.2.1 5 = .ok (.invokevirtual 24, 3) := by decide +kernel
theorem d_Tr_valueOf_8 : decode m_Tr_valueOf.2.1 8 = .ok (.ifCond .eq 20, 3) := by decide +kernel
theorem d_Tr_valueOf_11 : decode m_Tr_valueOf.2.1 11 = .ok (.aload_n 0, 1) := by decide +kernel
theorem d_Tr_valueOf_12 : decode m_Tr_valueOf.2.1 12 = .ok (.iload_n 1, 1) := by decide +kernel
theorem d_Tr_valueOf_13 : decode m_Tr_valueOf.2.1 13 = .ok (.invokevirtual 28, 3) := by decide +kernel
theorem d_Tr_valueOf_16 : decode m_Tr_valueOf.2.1 16 = .ok (.getfield 32, 3) := by decide +kernel
theorem d_Tr_valueOf_19 : decode m_Tr_valueOf.2.1 19 = .ok (.iload_n 1, 1) := by decide +kernel
theorem d_Tr_valueOf_20 : decode m_Tr_valueOf.2.1 20 = .ok (.sipush 1024, 3) := by decide +kernel
theorem d_Tr_valueOf_23 : decode m_Tr_valueOf.2.1 23 = .ok (.irem, 1) := by decide +kernel
theorem d_Tr_valueOf_24 : decode m_Tr_valueOf.2.1 24 = .ok (.iaload, 1) := by decide +kernel
theorem d_Tr_valueOf_25 : decode m_Tr_valueOf.2.1 25 = .ok (.goto 4, 3) := by decide +kernel
theorem d_Tr_valueOf_28 : decode m_Tr_valueOf.2.1 28 = .ok (.iconst 0, 1) := by decide +kernel
theorem d_Tr_valueOf_29 : decode m_Tr_valueOf.2.1 29 = .ok (.ireturn, 1) := by decide +kernel
theorem t_Tr_valueOf_0 {d : Nat} {st : List Value} {a0 : Nat} {x1 : Int32} {fs2 : List Value} {c4 : Nat} {fsb : List Value} {w : qk_W} {nc ns : Nat} {Q : Option Value ⊕ Nat → qk_W → Nat → Nat → Prop}  (hw1 : wo w a0 6 fs2) (hf3 : fs2[0]? = some (.ref c4)) (hb : wo w c4 3 fsb) (h8 : (st.map fun v => Value.category v).sum ≤ 8) (k : Ev d m_Ns_contains 0 [some (.ref c4), some (.int x1)] [] w nc ns (fun r w1 nc1 ns1 => match r with | .inl v => Ev (d + 1) m_Tr_valueOf 8 [some (.ref a0), some (.int x1)] (v.toList ++ st) w1 nc1 ns1 Q | .inr x => Q (.inr x) w1 nc1 ns1)) : Ev (d + 1) m_Tr_valueOf 0 [some (.ref a0), some (.int x1)] st w nc ns Q := by
  refine ev_aload_n d_Tr_valueOf_0 rfl rfl ?_
  refine ev_getf d_Tr_valueOf_1 fl_Tr_12 hw1.1 hw1.2 hf3 ?_
  refine ev_iload_n d_Tr_valueOf_4 rfl ?_
  exact ev_call (M' := m_Ns_contains) (As := [.ref c4, .int x1]) (st := st) d_Tr_valueOf_5 i_Ns_contains (fun h => absurd h (by decide +kernel)) cw_Tr_24 rfl rfl ⟨hb.1, 3, _, _, hb.2, rfl, rfl⟩ rfl (Nat.le_of_ble_eq_true rfl) h8 k
theorem t_Tr_valueOf_8 {d : Nat} {st : List Value} {o0 : Option Value} {o1 : Option Value} {y0 : Int32} {w : qk_W} {nc ns : Nat} {Q : Option Value ⊕ Nat → qk_W → Nat → Nat → Prop}   (kt : y0 = 0 → Ev d m_Tr_valueOf 28 [o0, o1] st w nc ns Q) (kf : ¬ (y0 = 0) → Ev d m_Tr_valueOf 11 [o0, o1] st w nc ns Q) : Ev d m_Tr_valueOf 8 [o0, o1] (.int y0 :: st) w nc ns Q := by
  exact ev_if_eq 28 d_Tr_valueOf_8 (by decide) kt kf
theorem t_Tr_valueOf_11 {d : Nat} {st : List Value} {a0 : Nat} {x1 : Int32} {fsb : List Value} {w : qk_W} {nc ns : Nat} {Q : Option Value ⊕ Nat → qk_W → Nat → Nat → Prop}  (hb : wo w a0 6 fsb) (h8 : (st.map fun v => Value.category v).sum ≤ 8) (k : Ev d m_Tr_page 0 [some (.ref a0), some (.int x1), none] [] w nc ns (fun r w1 nc1 ns1 => match r with | .inl v => Ev (d + 1) m_Tr_valueOf 16 [some (.ref a0), some (.int x1)] (v.toList ++ st) w1 nc1 ns1 Q | .inr x => Q (.inr x) w1 nc1 ns1)) : Ev (d + 1) m_Tr_valueOf 11 [some (.ref a0), some (.int x1)] st w nc ns Q := by
  refine ev_aload_n d_Tr_valueOf_11 rfl rfl ?_
  refine ev_iload_n d_Tr_valueOf_12 rfl ?_
  exact ev_call (M' := m_Tr_page) (As := [.ref a0, .int x1]) (st := st) d_Tr_valueOf_13 i_Tr_page (fun h => absurd h (by decide +kernel)) cw_Tr_28 rfl rfl ⟨hb.1, 6, _, _, hb.2, rfl, rfl⟩ rfl (Nat.le_of_ble_eq_true rfl) h8 k
theorem t_Tr_valueOf_16 {d : Nat} {o0 : Option Value} {x1 : Int32} {b0 : Nat} {fs2 : List Value} {c4 : Nat} {n6 : Nat} {f7 : Nat → Int32} {w : qk_W} {nc ns : Nat} {Q : Option Value ⊕ Nat → qk_W → Nat → Nat → Prop}  (hw1 : wo w b0 10 fs2) (hf3 : fs2[0]? = some (.ref c4)) (ha5 : wi w c4 n6 f7) (hi8 : vp_in (qi_rem x1 1024) n6) (hq : Q (.inl (some (.int (f7 (qi_rem x1 1024).toNatClampNeg)))) w nc ns) : Ev d m_Tr_valueOf 16 [o0, some (.int x1)] [.ref b0] w nc ns Q := by
  refine ev_getf d_Tr_valueOf_16 fl_Tr_32 hw1.1 hw1.2 hf3 ?_
  refine ev_iload_n d_Tr_valueOf_19 rfl ?_
  refine ev_sipush 1024 d_Tr_valueOf_20 (by decide) ?_
  refine ev_irem d_Tr_valueOf_23 (by decide) ?_
  refine ev_iald d_Tr_valueOf_24 ha5 hi8 ?_
  refine ev_goto 29 d_Tr_valueOf_25 (by decide) ?_
  exact ev_iret d_Tr_valueOf_29 rfl rfl hq
theorem t_Tr_valueOf_28 {d : Nat} {o0 : Option Value} {o1 : Option Value} {w : qk_W} {nc ns : Nat} {Q : Option Value ⊕ Nat → qk_W → Nat → Nat → Prop}   (hq : Q (.inl (some (.int 0))) w nc ns) : Ev d m_Tr_valueOf 28 [o0, o1] [] w nc ns Q := by
  refine ev_iconst 0 d_Tr_valueOf_28 (by decide) ?_
  exact ev_iret d_Tr_valueOf_29 rfl rfl hq
/-! Tr_page -/
theorem nl_Tr_18 : qk_nl "QuakeLink$Track" 18 10 [.null, .null] := ⟨_, rfl, by decide, (lw_i1 _ (List.mem_of_getElem? (i := 135) rfl)), rfl, rfl⟩
theorem cw_Tr_88 : qk_cw "QuakeLink$Track" m_Pg_init.1 (.invokespecial 88) := ⟨rfl, Or.inr ⟨"QuakeLink", (lw_i4 _ (List.mem_of_getElem? (i := 0) rfl))⟩, (lw_i4 _ (List.mem_of_getElem? (i := 1) rfl))⟩
theorem d_Tr_page_0 : decode m_Tr_page.2.1 0 = .ok (.iload_n 1, 1) := by decide +kernel
theorem d_Tr_page_1 : decode m_Tr_page.2.1 1 = .ok (.sipush 1024, 3) := by decide +kernel
theorem d_Tr_page_4 : decode m_Tr_page.2.1 4 = .ok (.idiv, 1) := by decide +kernel
theorem d_Tr_page_5 : decode m_Tr_page.2.1 5 = .ok (.istore_n 2, 1) := by decide +kernel
theorem d_Tr_page_6 : decode m_Tr_page.2.1 6 = .ok (.aload_n 0, 1) := by decide +kernel
theorem d_Tr_page_7 : decode m_Tr_page.2.1 7 = .ok (.getfield 20, 3) := by decide +kernel
theorem d_Tr_page_10 : decode m_Tr_page.2.1 10 = .ok (.iload_n 2, 1) := by decide +kernel
theorem d_Tr_page_11 : decode m_Tr_page.2.1 11 = .ok (.aaload, 1) := by decide +kernel
theorem d_Tr_page_12 : decode m_Tr_page.2.1 12 = .ok (.ifnonnull 16, 3) := by decide +kernel
theorem d_Tr_page_15 : decode m_Tr_page.2.1 15 = .ok (.aload_n 0, 1) := by decide +kernel
theorem d_Tr_page_16 : decode m_Tr_page.2.1 16 = .ok (.getfield 20, 3) := by decide +kernel
theorem d_Tr_page_19 : decode m_Tr_page.2.1 19 = .ok (.iload_n 2, 1) := by decide +kernel
theorem d_Tr_page_20 : decode m_Tr_page.2.1 20 = .ok (.new 18, 3) := by decide +kernel
theorem d_Tr_page_23 : decode m_Tr_page.2.1 23 = .ok (.dup, 1) := by decide +kernel
theorem d_Tr_page_24 : decode m_Tr_page.2.1 24 = .ok (.invokespecial 88, 3) := by decide +kernel
theorem d_Tr_page_27 : decode m_Tr_page.2.1 27 = .ok (.aastore, 1) := by decide +kernel
theorem d_Tr_page_28 : decode m_Tr_page.2.1 28 = .ok (.aload_n 0, 1) := by decide +kernel
theorem d_Tr_page_29 : decode m_Tr_page.2.1 29 = .ok (.getfield 20, 3) := by decide +kernel
theorem d_Tr_page_32 : decode m_Tr_page.2.1 32 = .ok (.iload_n 2, 1) := by decide +kernel
theorem d_Tr_page_33 : decode m_Tr_page.2.1 33 = .ok (.aaload, 1) := by decide +kernel
theorem d_Tr_page_34 : decode m_Tr_page.2.1 34 = .ok (.areturn, 1) := by decide +kernel
theorem t_Tr_page_0 {d : Nat} {st : List Value} {a0 : Nat} {x1 : Int32} {o2 : Option Value} {fs2 : List Value} {c4 : Nat} {n6 : Nat} {f7 : Nat → Option Nat} {c10 : Nat} {w : qk_W} {nc ns : Nat} {Q : Option Value ⊕ Nat → qk_W → Nat → Nat → Prop}  (hw1 : wo w a0 6 fs2) (hf3 : fs2[2]? = some (.ref c4)) (ha5 : wr "QuakeLink$Page" w c4 n6 f7) (hi8 : vp_in (x1 / 1024) n6) (hr9 : f7 (x1 / 1024).toNatClampNeg = some c10) (k : Ev d m_Tr_page 28 [some (.ref a0), some (.int x1), some (.int (x1 / 1024))] st w nc ns Q) : Ev d m_Tr_page 0 [some (.ref a0), some (.int x1), o2] st w nc ns Q := by
  refine ev_iload_n d_Tr_page_0 rfl ?_
  refine ev_sipush 1024 d_Tr_page_1 (by decide) ?_
  refine ev_idiv d_Tr_page_4 (by decide) ?_
  refine ev_istore_n d_Tr_page_5 (by decide) rfl ?_
  refine ev_aload_n d_Tr_page_6 rfl rfl ?_
  refine ev_getf d_Tr_page_7 fl_Tr_20 hw1.1 hw1.2 hf3 ?_
  refine ev_iload_n d_Tr_page_10 rfl ?_
  refine ev_aald d_Tr_page_11 ha5.1 (by decide) ha5.2 hi8 ?_
  rw [hr9]
  show Ev _ _ _ _ (Value.ref c10 :: _) _ _ _ _
  refine ev_ifnonnull_r 28 d_Tr_page_12 (by decide) ?_
  exact k
theorem t_Tr_page_0n {d : Nat} {st : List Value} {a0 : Nat} {x1 : Int32} {o2 : Option Value} {fs2 : List Value} {c4 : Nat} {n6 : Nat} {f7 : Nat → Option Nat} {w : qk_W} {nc ns : Nat} {Q : Option Value ⊕ Nat → qk_W → Nat → Nat → Prop}  (hw1 : wo w a0 6 fs2) (hf3 : fs2[2]? = some (.ref c4)) (ha5 : wr "QuakeLink$Page" w c4 n6 f7) (hi8 : vp_in (x1 / 1024) n6) (hr9 : f7 (x1 / 1024).toNatClampNeg = none) (k : Ev d m_Tr_page 15 [some (.ref a0), some (.int x1), some (.int (x1 / 1024))] st w nc ns Q) : Ev d m_Tr_page 0 [some (.ref a0), some (.int x1), o2] st w nc ns Q := by
  refine ev_iload_n d_Tr_page_0 rfl ?_
  refine ev_sipush 1024 d_Tr_page_1 (by decide) ?_
  refine ev_idiv d_Tr_page_4 (by decide) ?_
  refine ev_istore_n d_Tr_page_5 (by decide) rfl ?_
  refine ev_aload_n d_Tr_page_6 rfl rfl ?_
  refine ev_getf d_Tr_page_7 fl_Tr_20 hw1.1 hw1.2 hf3 ?_
  refine ev_iload_n d_Tr_page_10 rfl ?_
  refine ev_aald d_Tr_page_11 ha5.1 (by decide) ha5.2 hi8 ?_
  rw [hr9]
  show Ev _ _ _ _ (Value.null :: _) _ _ _ _
  refine ev_ifnonnull_n d_Tr_page_12 ?_
  exact k
theorem t_Tr_page_15 {d : Nat} {st : List Value} {a0 : Nat} {o1 : Option Value} {x2 : Int32} {fs2 : List Value} {c4 : Nat} {w : qk_W} {nc ns : Nat} {Q : Option Value ⊕ Nat → qk_W → Nat → Nat → Prop}  (v : Nat) (hv : 16 ≤ v) (hn : w v = none) (hw1 : wo w a0 6 fs2) (hf3 : fs2[2]? = some (.ref c4)) (k : Ev d m_Tr_page 23 [some (.ref a0), o1, some (.int x2)] (.ref v :: .int x2 :: .ref c4 :: st) (qk_set w v (.inr (10, [.null, .null]))) (nc + 1) (ns + 2) Q) : Ev d m_Tr_page 15 [some (.ref a0), o1, some (.int x2)] st w nc ns Q := by
  refine ev_aload_n d_Tr_page_15 rfl rfl ?_
  refine ev_getf d_Tr_page_16 fl_Tr_20 hw1.1 hw1.2 hf3 ?_
  refine ev_iload_n d_Tr_page_19 rfl ?_
  exact ev_new v d_Tr_page_20 nl_Tr_18 hv hn k
theorem t_Tr_page_23 {d : Nat} {st : List Value} {o0 : Option Value} {o1 : Option Value} {o2 : Option Value} {b0 : Nat} {w : qk_W} {nc ns : Nat} {Q : Option Value ⊕ Nat → qk_W → Nat → Nat → Prop}  (h8 : ((.ref b0 :: st).map fun v => Value.category v).sum ≤ 8) (k : Ev d m_Pg_init 0 [some (.ref b0)] [] w nc ns (fun r w1 nc1 ns1 => match r with | .inl v => Ev (d + 1) m_Tr_page 27 [o0, o1, o2] (v.toList ++ (.ref b0 :: st)) w1 nc1 ns1 Q | .inr x => Q (.inr x) w1 nc1 ns1)) : Ev (d + 1) m_Tr_page 23 [o0, o1, o2] (.ref b0 :: st) w nc ns Q := by
  refine ev_dup d_Tr_page_23 rfl ?_
  exact ev_call (M' := m_Pg_init) (As := [.ref b0]) (st := (.ref b0 :: st)) d_Tr_page_24 i_Pg_init ii_Pg_init cw_Tr_88 rfl rfl trivial rfl (Nat.le_of_ble_eq_true rfl) h8 k
theorem t_Tr_page_27 {d : Nat} {st : List Value} {o0 : Option Value} {o1 : Option Value} {o2 : Option Value} {b0 : Nat} {y1 : Int32} {b2 : Nat} {n2 : Nat} {f3 : Nat → Option Nat} {vs : List Value} {w : qk_W} {nc ns : Nat} {Q : Option Value ⊕ Nat → qk_W → Nat → Nat → Prop}  (ha1 : wr "QuakeLink$Page" w b2 n2 f3) (hi : vp_in y1 n2) (hv : wo w b0 10 vs) (k : Ev d m_Tr_page 28 [o0, o1, o2] st (qk_set w b2 (.inl (.object "QuakeLink$Page", n2, .inr (.inr (.inr (.inr (va_up f3 y1.toNatClampNeg (some b0)))))))) nc ns Q) : Ev d m_Tr_page 27 [o0, o1, o2] (.ref b0 :: .int y1 :: .ref b2 :: st) w nc ns Q := by
  exact ev_aast (ci := 10) d_Tr_page_27 ha1.1 hv.1 rfl (by decide) ha1.2 hv.2 hi k
theorem t_Tr_page_28 {d : Nat} {a0 : Nat} {o1 : Option Value} {x2 : Int32} {fs2 : List Value} {c4 : Nat} {n6 : Nat} {f7 : Nat → Option Nat} {c10 : Nat} {w : qk_W} {nc ns : Nat} {Q : Option Value ⊕ Nat → qk_W → Nat → Nat → Prop}  (hw1 : wo w a0 6 fs2) (hf3 : fs2[2]? = some (.ref c4)) (ha5 : wr "QuakeLink$Page" w c4 n6 f7) (hi8 : vp_in x2 n6) (hr9 : f7 x2.toNatClampNeg = some c10) (hq : Q (.inl (some (.ref c10))) w nc ns) : Ev d m_Tr_page 28 [some (.ref a0), o1, some (.int x2)] [] w nc ns Q := by
  refine ev_aload_n d_Tr_page_28 rfl rfl ?_
  refine ev_getf d_Tr_page_29 fl_Tr_20 hw1.1 hw1.2 hf3 ?_
  refine ev_iload_n d_Tr_page_32 rfl ?_
  refine ev_aald d_Tr_page_33 ha5.1 (by decide) ha5.2 hi8 ?_
  rw [hr9]
  show Ev _ _ _ _ (Value.ref c10 :: _) _ _ _ _
  exact ev_aret d_Tr_page_34 rfl rfl hq
/-! Tr_keep -/
theorem fl_Tr_65 : qk_fl "QuakeLink$Track" 65 8 0 := ⟨_, rfl, by decide, rfl, (lw_i1 _ (List.mem_of_getElem? (i := 229) rfl))⟩
theorem fl_Tr_36 : qk_fl "QuakeLink$Track" 36 10 1 := ⟨_, rfl, by decide, rfl, (lw_i4 _ (List.mem_of_getElem? (i := 7) rfl))⟩
theorem cw_Tr_68 : qk_cw "QuakeLink$Track" m_Ns_include.1 (.invokevirtual 68) := ⟨(lw_i4 _ (List.mem_of_getElem? (i := 18) rfl)), (lw_i4 _ (List.mem_of_getElem? (i := 19) rfl)), (lw_i4 _ (List.mem_of_getElem? (i := 20) rfl))⟩
theorem d_Tr_keep_0 : decode m_Tr_keep.2.1 0 = .ok (.new 40, 3) := by decide +kernel
theorem d_Tr_keep_3 : decode m_Tr_keep.2.1 3 = .ok (.dup, 1) := by decide +kernel
theorem d_Tr_keep_4 : decode m_Tr_keep.2.1 4 = .ok (.aload_n 1, 1) := by decide +kernel
theorem d_Tr_keep_5 : decode m_Tr_keep.2.1 5 = .ok (.invokespecial 42, 3) := by decide +kernel
theorem d_Tr_keep_8 : decode m_Tr_keep.2.1 8 = .ok (.astore_n 2, 1) := by decide +kernel
theorem d_Tr_keep_9 : decode m_Tr_keep.2.1 9 = .ok (.aload_n 1, 1) := by decide +kernel
theorem d_Tr_keep_10 : decode m_Tr_keep.2.1 10 = .ok (.getfield 65, 3) := by decide +kernel
theorem d_Tr_keep_13 : decode m_Tr_keep.2.1 13 = .ok (.iconst 1, 1) := by decide +kernel
theorem d_Tr_keep_14 : decode m_Tr_keep.2.1 14 = .ok (.baload, 1) := by decide +kernel
theorem d_Tr_keep_15 : decode m_Tr_keep.2.1 15 = .ok (.istore_n 3, 1) := by decide +kernel
theorem d_Tr_keep_16 : decode m_Tr_keep.2.1 16 = .ok (.aload_n 1, 1) := by decide +kernel
theorem d_Tr_keep_17 : decode m_Tr_keep.2.1 17 = .ok (.bipush 8, 2) := by decide +kernel
theorem d_Tr_keep_19 : decode m_Tr_keep.2.1 19 = .ok (.invokevirtual 45, 3) := by decide +kernel
theorem d_Tr_keep_22 : decode m_Tr_keep.2.1 22 = .ok (.istore 4, 2) := by decide +kernel
theorem d_Tr_keep_24 : decode m_Tr_keep.2.1 24 = .ok (.iload 4, 2) := by decide +kernel
theorem d_Tr_keep_26 : decode m_Tr_keep.2.1 26 = .ok (.aload_n 1, 1) := by decide +kernel
theorem d_Tr_keep_27 : decode m_Tr_keep.2.1 27 = .ok (.iconst 2, 1) := by decide +kernel
theorem d_Tr_keep_28 : decode m_Tr_keep.2.1 28 = .ok (.iconst 2, 1) := by decide +kernel
theorem d_Tr_keep_29 : decode m_Tr_keep.2.1 29 = .ok (.invokevirtual 51, 3) := by decide +kernel
theorem d_Tr_keep_32 : decode m_Tr_keep.2.1 32 = .ok (.l2i, 1) := by decide +kernel
theorem d_Tr_keep_33 : decode m_Tr_keep.2.1 33 = .ok (.iadd, 1) := by decide +kernel
theorem d_Tr_keep_34 : decode m_Tr_keep.2.1 34 = .ok (.istore 5, 2) := by decide +kernel
theorem d_Tr_keep_36 : decode m_Tr_keep.2.1 36 = .ok (.iload 4, 2) := by decide +kernel
theorem d_Tr_keep_38 : decode m_Tr_keep.2.1 38 = .ok (.istore 6, 2) := by decide +kernel
theorem d_Tr_keep_40 : decode m_Tr_keep.2.1 40 = .ok (.iload 6, 2) := by decide +kernel
theorem d_Tr_keep_42 : decode m_Tr_keep.2.1 42 = .ok (.iload 5, 2) := by decide +kernel
theorem d_Tr_keep_44 : decode m_Tr_keep.2.1 44 = .ok (.if_icmp .ge 63, 3) := by decide +kernel
theorem d_Tr_keep_47 : decode m_Tr_keep.2.1 47 = .ok (.aload_n 0, 1) := by decide +kernel
theorem d_Tr_keep_48 : decode m_Tr_keep.2.1 48 = .ok (.getfield 12, 3) := by decide +kernel
theorem d_Tr_keep_51 : decode m_Tr_keep.2.1 51 = .ok (.iload 6, 2) := by decide +kernel
theorem d_Tr_keep_53 : decode m_Tr_keep.2.1 53 = .ok (.invokevirtual 24, 3) := by decide +kernel
theorem d_Tr_keep_56 : decode m_Tr_keep.2.1 56 = .ok (.ifCond .ne 40, 3) := by decide +kernel
theorem d_Tr_keep_59 : decode m_Tr_keep.2.1 59 = .ok (.aload_n 0, 1) := by decide +kernel
theorem d_Tr_keep_60 : decode m_Tr_keep.2.1 60 = .ok (.iload 6, 2) := by decide +kernel
theorem d_Tr_keep_62 : decode m_Tr_keep.2.1 62 = .ok (.invokevirtual 28, 3) := by decide +kernel
theorem d_Tr_keep_65 : decode m_Tr_keep.2.1 65 = .ok (.astore 7, 2) := by decide +kernel
theorem d_Tr_keep_67 : decode m_Tr_keep.2.1 67 = .ok (.aload 7, 2) := by decide +kernel
theorem d_Tr_keep_69 : decode m_Tr_keep.2.1 69 = .ok (.getfield 32, 3) := by decide +kernel
theorem d_Tr_keep_72 : decode m_Tr_keep.2.1 72 = .ok (.iload 6, 2) := by decide +kernel
theorem d_Tr_keep_74 : decode m_Tr_keep.2.1 74 = .ok (.sipush 1024, 3) := by decide +kernel
theorem d_Tr_keep_77 : decode m_Tr_keep.2.1 77 = .ok (.irem, 1) := by decide +kernel
theorem d_Tr_keep_78 : decode m_Tr_keep.2.1 78 = .ok (.aload_n 2, 1) := by decide +kernel
theorem d_Tr_keep_79 : decode m_Tr_keep.2.1 79 = .ok (.getfield 58, 3) := by decide +kernel
theorem d_Tr_keep_82 : decode m_Tr_keep.2.1 82 = .ok (.iastore, 1) := by decide +kernel
theorem d_Tr_keep_83 : decode m_Tr_keep.2.1 83 = .ok (.aload 7, 2) := by decide +kernel
theorem d_Tr_keep_85 : decode m_Tr_keep.2.1 85 = .ok (.getfield 36, 3) := by decide +kernel
theorem d_Tr_keep_88 : decode m_Tr_keep.2.1 88 = .ok (.iload 6, 2) := by decide +kernel
theorem d_Tr_keep_90 : decode m_Tr_keep.2.1 90 = .ok (.sipush 1024, 3) := by decide +kernel
theorem d_Tr_keep_93 : decode m_Tr_keep.2.1 93 = .ok (.irem, 1) := by decide +kernel
theorem d_Tr_keep_94 : decode m_Tr_keep.2.1 94 = .ok (.iload_n 3, 1) := by decide +kernel
theorem d_Tr_keep_95 : decode m_Tr_keep.2.1 95 = .ok (.bastore, 1) := by decide +kernel
theorem d_Tr_keep_96 : decode m_Tr_keep.2.1 96 = .ok (.aload_n 2, 1) := by decide +kernel
theorem d_Tr_keep_97 : decode m_Tr_keep.2.1 97 = .ok (.invokevirtual 61, 3) := by decide +kernel
theorem d_Tr_keep_100 : decode m_Tr_keep.2.1 100 = .ok (.pop, 1) := by decide +kernel
theorem d_Tr_keep_101 : decode m_Tr_keep.2.1 101 = .ok (.iinc 6 1, 3) := by decide +kernel
theorem d_Tr_keep_104 : decode m_Tr_keep.2.1 104 = .ok (.goto (-64), 3) := by decide +kernel
theorem d_Tr_keep_107 : decode m_Tr_keep.2.1 107 = .ok (.aload_n 0, 1) := by decide +kernel
theorem d_Tr_keep_108 : decode m_Tr_keep.2.1 108 = .ok (.getfield 12, 3) := by decide +kernel
theorem d_Tr_keep_111 : decode m_Tr_keep.2.1 111 = .ok (.iload 4, 2) := by decide +kernel
theorem d_Tr_keep_113 : decode m_Tr_keep.2.1 113 = .ok (.iload 5, 2) := by decide +kernel
theorem d_Tr_keep_115 : decode m_Tr_keep.2.1 115 = .ok (.iconst 1, 1) := by decide +kernel
theorem d_Tr_keep_116 : decode m_Tr_keep.2.1 116 = .ok (.isub, 1) := by decide +kernel
theorem d_Tr_keep_117 : decode m_Tr_keep.2.1 117 = .ok (.invokevirtual 68, 3) := by decide +kernel
theorem d_Tr_keep_120 : decode m_Tr_keep.2.1 120 = .ok (.ireturn, 1) := by decide +kernel
theorem t_Tr_keep_0 {d : Nat} {st : List Value} {o0 : Option Value} {o1 : Option Value} {o2 : Option Value} {o3 : Option Value} {o4 : Option Value} {o5 : Option Value} {o6 : Option Value} {o7 : Option Value} {w : qk_W} {nc ns : Nat} {Q : Option Value ⊕ Nat → qk_W → Nat → Nat → Prop}  (v : Nat) (hv : 16 ≤ v) (hn : w v = none) (k : Ev d m_Tr_keep 3 [o0, o1, o2, o3, o4, o5, o6, o7] (.ref v :: st) (qk_set w v (.inr (9, [.int 0, .null, .int 0, .int 0, .long 0, .int 0, .int 0, .int 0, .int 0]))) (nc + 1) (ns + 9) Q) : Ev d m_Tr_keep 0 [o0, o1, o2, o3, o4, o5, o6, o7] st w nc ns Q := by
  exact ev_new v d_Tr_keep_0 nl_Tr_40 hv hn k
theorem t_Tr_keep_3 {d : Nat} {st : List Value} {o0 : Option Value} {a1 : Nat} {o2 : Option Value} {o3 : Option Value} {o4 : Option Value} {o5 : Option Value} {o6 : Option Value} {o7 : Option Value} {b0 : Nat} {w : qk_W} {nc ns : Nat} {Q : Option Value ⊕ Nat → qk_W → Nat → Nat → Prop}  (h8 : ((.ref b0 :: st).map fun v => Value.category v).sum ≤ 8) (k : Ev d m_De_init 0 [some (.ref b0), some (.ref a1)] [] w nc ns (fun r w1 nc1 ns1 => match r with | .inl v => Ev (d + 1) m_Tr_keep 8 [o0, some (.ref a1), o2, o3, o4, o5, o6, o7] (v.toList ++ (.ref b0 :: st)) w1 nc1 ns1 Q | .inr x => Q (.inr x) w1 nc1 ns1)) : Ev (d + 1) m_Tr_keep 3 [o0, some (.ref a1), o2, o3, o4, o5, o6, o7] (.ref b0 :: st) w nc ns Q := by
  refine ev_dup d_Tr_keep_3 rfl ?_
  refine ev_aload_n d_Tr_keep_4 rfl rfl ?_
  exact ev_call (M' := m_De_init) (As := [.ref b0, .ref a1]) (st := (.ref b0 :: st)) d_Tr_keep_5 i_De_init ii_De_init cw_Tr_42 rfl rfl trivial rfl (Nat.le_of_ble_eq_true rfl) h8 k
theorem t_Tr_keep_8 {d : Nat} {st : List Value} {o0 : Option Value} {a1 : Nat} {o2 : Option Value} {o3 : Option Value} {o4 : Option Value} {o5 : Option Value} {o6 : Option Value} {o7 : Option Value} {s0 : Value} {fs3 : List Value} {c5 : Nat} {n7 : Nat} {f8 : Nat → Int32} {w : qk_W} {nc ns : Nat} {Q : Option Value ⊕ Nat → qk_W → Nat → Nat → Prop} (hs0 : qk_isr s0 = true) (hc1 : qk_c2 [o0, some (.ref a1), o2, o3, o4, o5, o6, o7] 2 = true) (hw2 : wo w a1 8 fs3) (hf4 : fs3[0]? = some (.ref c5)) (ha6 : wb w c5 n7 f8) (hi9 : vp_in 1 n7) (hc10 : qk_c2 [o0, some (.ref a1), some s0, o3, o4, o5, o6, o7] 3 = true) (h8 : (st.map fun v => Value.category v).sum ≤ 8) (k : Ev d m_Me_value 0 [some (.ref a1), some (.int 8)] [] w nc ns (fun r w1 nc1 ns1 => match r with | .inl v => Ev (d + 1) m_Tr_keep 22 [o0, some (.ref a1), some s0, some (.int (f8 (1 : Int32).toNatClampNeg)), o4, o5, o6, o7] (v.toList ++ st) w1 nc1 ns1 Q | .inr x => Q (.inr x) w1 nc1 ns1)) : Ev (d + 1) m_Tr_keep 8 [o0, some (.ref a1), o2, o3, o4, o5, o6, o7] (s0 :: st) w nc ns Q := by
  refine ev_astore_n d_Tr_keep_8 hs0 (by decide) hc1 ?_
  refine ev_aload_n d_Tr_keep_9 rfl rfl ?_
  refine ev_getf d_Tr_keep_10 fl_Tr_65 hw2.1 hw2.2 hf4 ?_
  refine ev_iconst 1 d_Tr_keep_13 (by decide) ?_
  refine ev_bald d_Tr_keep_14 ha6.1 ha6.2 hi9 ?_
  refine ev_istore_n d_Tr_keep_15 (by decide) hc10 ?_
  refine ev_aload_n d_Tr_keep_16 rfl rfl ?_
  refine ev_bipush 8 d_Tr_keep_17 (by decide) ?_
  exact ev_call (M' := m_Me_value) (As := [.ref a1, .int 8]) (st := st) d_Tr_keep_19 i_Me_value (fun h => absurd h (by decide +kernel)) cw_Tr_45 rfl rfl ⟨hw2.1, 8, _, _, hw2.2, rfl, rfl⟩ rfl (Nat.le_of_ble_eq_true rfl) h8 k
theorem t_Tr_keep_22 {d : Nat} {st : List Value} {o0 : Option Value} {a1 : Nat} {o2 : Option Value} {o3 : Option Value} {o4 : Option Value} {o5 : Option Value} {o6 : Option Value} {o7 : Option Value} {y0 : Int32} {fsb : List Value} {w : qk_W} {nc ns : Nat} {Q : Option Value ⊕ Nat → qk_W → Nat → Nat → Prop}  (hc1 : qk_c2 [o0, some (.ref a1), o2, o3, o4, o5, o6, o7] 4 = true) (hb : wo w a1 8 fsb) (h8 : ((.int y0 :: st).map fun v => Value.category v).sum ≤ 8) (k : Ev d m_Me_number 0 [some (.ref a1), some (.int 2), some (.int 2), none, none, none] [] w nc ns (fun r w1 nc1 ns1 => match r with | .inl v => Ev (d + 1) m_Tr_keep 32 [o0, some (.ref a1), o2, o3, some (.int y0), o5, o6, o7] (v.toList ++ (.int y0 :: st)) w1 nc1 ns1 Q | .inr x => Q (.inr x) w1 nc1 ns1)) : Ev (d + 1) m_Tr_keep 22 [o0, some (.ref a1), o2, o3, o4, o5, o6, o7] (.int y0 :: st) w nc ns Q := by
  refine ev_istore d_Tr_keep_22 (by decide) hc1 ?_
  refine ev_iload d_Tr_keep_24 rfl ?_
  refine ev_aload_n d_Tr_keep_26 rfl rfl ?_
  refine ev_iconst 2 d_Tr_keep_27 (by decide) ?_
  refine ev_iconst 2 d_Tr_keep_28 (by decide) ?_
  exact ev_call (M' := m_Me_number) (As := [.ref a1, .int 2, .int 2]) (st := (.int y0 :: st)) d_Tr_keep_29 i_Me_number (fun h => absurd h (by decide +kernel)) cw_Tr_51 rfl rfl ⟨hb.1, 8, _, _, hb.2, rfl, rfl⟩ rfl (Nat.le_of_ble_eq_true rfl) h8 k
theorem t_Tr_keep_32 {d : Nat} {st : List Value} {o0 : Option Value} {o1 : Option Value} {o2 : Option Value} {o3 : Option Value} {x4 : Int32} {o5 : Option Value} {o6 : Option Value} {o7 : Option Value} {y0 : Int64} {y1 : Int32} {w : qk_W} {nc ns : Nat} {Q : Option Value ⊕ Nat → qk_W → Nat → Nat → Prop}  (hc1 : qk_c2 [o0, o1, o2, o3, some (.int x4), o5, o6, o7] 5 = true) (k : Ev d m_Tr_keep 40 [o0, o1, o2, o3, some (.int x4), some (.int (y1 + (Int64.toInt32 y0))), some (.int x4), o7] st w nc ns Q) : Ev d m_Tr_keep 32 [o0, o1, o2, o3, some (.int x4), o5, o6, o7] (.long y0 :: .int y1 :: st) w nc ns Q := by
  refine ev_l2i d_Tr_keep_32 ?_
  refine ev_iadd d_Tr_keep_33 ?_
  refine ev_istore d_Tr_keep_34 (by decide) hc1 ?_
  refine ev_iload d_Tr_keep_36 rfl ?_
  refine ev_istore d_Tr_keep_38 (by decide) rfl ?_
  exact k
theorem t_Tr_keep_40 {d : Nat} {st : List Value} {o0 : Option Value} {o1 : Option Value} {o2 : Option Value} {o3 : Option Value} {o4 : Option Value} {x5 : Int32} {x6 : Int32} {o7 : Option Value} {w : qk_W} {nc ns : Nat} {Q : Option Value ⊕ Nat → qk_W → Nat → Nat → Prop}   (kt : x5 ≤ x6 → Ev d m_Tr_keep 107 [o0, o1, o2, o3, o4, some (.int x5), some (.int x6), o7] st w nc ns Q) (kf : ¬ (x5 ≤ x6) → Ev d m_Tr_keep 47 [o0, o1, o2, o3, o4, some (.int x5), some (.int x6), o7] st w nc ns Q) : Ev d m_Tr_keep 40 [o0, o1, o2, o3, o4, some (.int x5), some (.int x6), o7] st w nc ns Q := by
  refine ev_iload d_Tr_keep_40 rfl ?_
  refine ev_iload d_Tr_keep_42 rfl ?_
  exact ev_icmp_ge 107 d_Tr_keep_44 (by decide) kt kf
theorem t_Tr_keep_47 {d : Nat} {st : List Value} {a0 : Nat} {o1 : Option Value} {o2 : Option Value} {o3 : Option Value} {o4 : Option Value} {o5 : Option Value} {x6 : Int32} {o7 : Option Value} {fs2 : List Value} {c4 : Nat} {fsb : List Value} {w : qk_W} {nc ns : Nat} {Q : Option Value ⊕ Nat → qk_W → Nat → Nat → Prop}  (hw1 : wo w a0 6 fs2) (hf3 : fs2[0]? = some (.ref c4)) (hb : wo w c4 3 fsb) (h8 : (st.map fun v => Value.category v).sum ≤ 8) (k : Ev d m_Ns_contains 0 [some (.ref c4), some (.int x6)] [] w nc ns (fun r w1 nc1 ns1 => match r with | .inl v => Ev (d + 1) m_Tr_keep 56 [some (.ref a0), o1, o2, o3, o4, o5, some (.int x6), o7] (v.toList ++ st) w1 nc1 ns1 Q | .inr x => Q (.inr x) w1 nc1 ns1)) : Ev (d + 1) m_Tr_keep 47 [some (.ref a0), o1, o2, o3, o4, o5, some (.int x6), o7] st w nc ns Q := by
  refine ev_aload_n d_Tr_keep_47 rfl rfl ?_
  refine ev_getf d_Tr_keep_48 fl_Tr_12 hw1.1 hw1.2 hf3 ?_
  refine ev_iload d_Tr_keep_51 rfl ?_
  exact ev_call (M' := m_Ns_contains) (As := [.ref c4, .int x6]) (st := st) d_Tr_keep_53 i_Ns_contains (fun h => absurd h (by decide +kernel)) cw_Tr_24 rfl rfl ⟨hb.1, 3, _, _, hb.2, rfl, rfl⟩ rfl (Nat.le_of_ble_eq_true rfl) h8 k
theorem t_Tr_keep_56 {d : Nat} {st : List Value} {o0 : Option Value} {o1 : Option Value} {o2 : Option Value} {o3 : Option Value} {o4 : Option Value} {o5 : Option Value} {o6 : Option Value} {o7 : Option Value} {y0 : Int32} {w : qk_W} {nc ns : Nat} {Q : Option Value ⊕ Nat → qk_W → Nat → Nat → Prop}   (kt : ¬ y0 = 0 → Ev d m_Tr_keep 96 [o0, o1, o2, o3, o4, o5, o6, o7] st w nc ns Q) (kf : y0 = 0 → Ev d m_Tr_keep 59 [o0, o1, o2, o3, o4, o5, o6, o7] st w nc ns Q) : Ev d m_Tr_keep 56 [o0, o1, o2, o3, o4, o5, o6, o7] (.int y0 :: st) w nc ns Q := by
  exact ev_if_ne 96 d_Tr_keep_56 (by decide) kt kf
theorem t_Tr_keep_59 {d : Nat} {st : List Value} {a0 : Nat} {o1 : Option Value} {o2 : Option Value} {o3 : Option Value} {o4 : Option Value} {o5 : Option Value} {x6 : Int32} {o7 : Option Value} {fsb : List Value} {w : qk_W} {nc ns : Nat} {Q : Option Value ⊕ Nat → qk_W → Nat → Nat → Prop}  (hb : wo w a0 6 fsb) (h8 : (st.map fun v => Value.category v).sum ≤ 8) (k : Ev d m_Tr_page 0 [some (.ref a0), some (.int x6), none] [] w nc ns (fun r w1 nc1 ns1 => match r with | .inl v => Ev (d + 1) m_Tr_keep 65 [some (.ref a0), o1, o2, o3, o4, o5, some (.int x6), o7] (v.toList ++ st) w1 nc1 ns1 Q | .inr x => Q (.inr x) w1 nc1 ns1)) : Ev (d + 1) m_Tr_keep 59 [some (.ref a0), o1, o2, o3, o4, o5, some (.int x6), o7] st w nc ns Q := by
  refine ev_aload_n d_Tr_keep_59 rfl rfl ?_
  refine ev_iload d_Tr_keep_60 rfl ?_
  exact ev_call (M' := m_Tr_page) (As := [.ref a0, .int x6]) (st := st) d_Tr_keep_62 i_Tr_page (fun h => absurd h (by decide +kernel)) cw_Tr_28 rfl rfl ⟨hb.1, 6, _, _, hb.2, rfl, rfl⟩ rfl (Nat.le_of_ble_eq_true rfl) h8 k
theorem t_Tr_keep_65 {d : Nat} {st : List Value} {o0 : Option Value} {o1 : Option Value} {a2 : Nat} {o3 : Option Value} {o4 : Option Value} {o5 : Option Value} {x6 : Int32} {o7 : Option Value} {b0 : Nat} {fs3 : List Value} {c5 : Nat} {fs7 : List Value} {n9 : Int32} {n11 : Nat} {f12 : Nat → Int32} {w : qk_W} {nc ns : Nat} {Q : Option Value ⊕ Nat → qk_W → Nat → Nat → Prop}  (hc1 : qk_c2 [o0, o1, some (.ref a2), o3, o4, o5, some (.int x6), o7] 7 = true) (hw2 : wo w b0 10 fs3) (hf4 : fs3[0]? = some (.ref c5)) (hw6 : wo w a2 9 fs7) (hf8 : fs7[0]? = some (.int n9)) (ha10 : wi w c5 n11 f12) (hi : vp_in (qi_rem x6 1024) n11) (h16 : 16 ≤ c5) (k : Ev d m_Tr_keep 83 [o0, o1, some (.ref a2), o3, o4, o5, some (.int x6), some (.ref b0)] st (qk_set w c5 (.inl (.int, n11, .inl (upd f12 (qi_rem x6 1024).toNatClampNeg n9)))) nc ns Q) : Ev d m_Tr_keep 65 [o0, o1, some (.ref a2), o3, o4, o5, some (.int x6), o7] (.ref b0 :: st) w nc ns Q := by
  refine ev_astore d_Tr_keep_65 rfl (by decide) hc1 ?_
  refine ev_aload d_Tr_keep_67 rfl rfl ?_
  refine ev_getf d_Tr_keep_69 fl_Tr_32 hw2.1 hw2.2 hf4 ?_
  refine ev_iload d_Tr_keep_72 rfl ?_
  refine ev_sipush 1024 d_Tr_keep_74 (by decide) ?_
  refine ev_irem d_Tr_keep_77 (by decide) ?_
  refine ev_aload_n d_Tr_keep_78 rfl rfl ?_
  refine ev_getf d_Tr_keep_79 fl_Tr_58 hw6.1 hw6.2 hf8 ?_
  exact ev_iast d_Tr_keep_82 h16 ha10 hi k
theorem t_Tr_keep_83 {d : Nat} {st : List Value} {o0 : Option Value} {o1 : Option Value} {o2 : Option Value} {x3 : Int32} {o4 : Option Value} {o5 : Option Value} {x6 : Int32} {a7 : Nat} {fs2 : List Value} {c4 : Nat} {n6 : Nat} {f7 : Nat → Int32} {w : qk_W} {nc ns : Nat} {Q : Option Value ⊕ Nat → qk_W → Nat → Nat → Prop}  (hw1 : wo w a7 10 fs2) (hf3 : fs2[1]? = some (.ref c4)) (ha5 : wb w c4 n6 f7) (hi : vp_in (qi_rem x6 1024) n6) (k : Ev d m_Tr_keep 96 [o0, o1, o2, some (.int x3), o4, o5, some (.int x6), some (.ref a7)] st (qk_set w c4 (.inl (.byte, n6, .inl (upd f7 (qi_rem x6 1024).toNatClampNeg (Int32.toInt8 x3).toInt32)))) nc ns Q) : Ev d m_Tr_keep 83 [o0, o1, o2, some (.int x3), o4, o5, some (.int x6), some (.ref a7)] st w nc ns Q := by
  refine ev_aload d_Tr_keep_83 rfl rfl ?_
  refine ev_getf d_Tr_keep_85 fl_Tr_36 hw1.1 hw1.2 hf3 ?_
  refine ev_iload d_Tr_keep_88 rfl ?_
  refine ev_sipush 1024 d_Tr_keep_90 (by decide) ?_
  refine ev_irem d_Tr_keep_93 (by decide) ?_
  refine ev_iload_n d_Tr_keep_94 rfl ?_
  exact ev_bast d_Tr_keep_95 ha5.1 ha5.2 hi k
theorem t_Tr_keep_96 {d : Nat} {st : List Value} {o0 : Option Value} {o1 : Option Value} {a2 : Nat} {o3 : Option Value} {o4 : Option Value} {o5 : Option Value} {o6 : Option Value} {o7 : Option Value} {fsb : List Value} {w : qk_W} {nc ns : Nat} {Q : Option Value ⊕ Nat → qk_W → Nat → Nat → Prop}  (hb : wo w a2 9 fsb) (h8 : (st.map fun v => Value.category v).sum ≤ 8) (k : Ev d m_De_advance 0 [some (.ref a2), none] [] w nc ns (fun r w1 nc1 ns1 => match r with | .inl v => Ev (d + 1) m_Tr_keep 100 [o0, o1, some (.ref a2), o3, o4, o5, o6, o7] (v.toList ++ st) w1 nc1 ns1 Q | .inr x => Q (.inr x) w1 nc1 ns1)) : Ev (d + 1) m_Tr_keep 96 [o0, o1, some (.ref a2), o3, o4, o5, o6, o7] st w nc ns Q := by
  refine ev_aload_n d_Tr_keep_96 rfl rfl ?_
  exact ev_call (M' := m_De_advance) (As := [.ref a2]) (st := st) d_Tr_keep_97 i_De_advance (fun h => absurd h (by decide +kernel)) cw_Tr_61 rfl rfl ⟨hb.1, 9, _, _, hb.2, rfl, rfl⟩ rfl (Nat.le_of_ble_eq_true rfl) h8 k
theorem t_Tr_keep_100 {d : Nat} {st : List Value} {o0 : Option Value} {o1 : Option Value} {o2 : Option Value} {o3 : Option Value} {o4 : Option Value} {o5 : Option Value} {x6 : Int32} {o7 : Option Value} {y0 : Int32} {w : qk_W} {nc ns : Nat} {Q : Option Value ⊕ Nat → qk_W → Nat → Nat → Prop}  (hc1 : qk_c2 [o0, o1, o2, o3, o4, o5, some (.int x6), o7] 6 = true) (k : Ev d m_Tr_keep 40 [o0, o1, o2, o3, o4, o5, some (.int (x6 + 1)), o7] st w nc ns Q) : Ev d m_Tr_keep 100 [o0, o1, o2, o3, o4, o5, some (.int x6), o7] (.int y0 :: st) w nc ns Q := by
  refine ev_pop d_Tr_keep_100 rfl ?_
  refine ev_iinc 1 d_Tr_keep_101 (by decide) rfl (by decide) hc1 ?_
  refine ev_goto 40 d_Tr_keep_104 (by decide) ?_
  exact k
theorem t_Tr_keep_107 {d : Nat} {st : List Value} {a0 : Nat} {o1 : Option Value} {o2 : Option Value} {o3 : Option Value} {x4 : Int32} {x5 : Int32} {o6 : Option Value} {o7 : Option Value} {fs2 : List Value} {c4 : Nat} {fsb : List Value} {w : qk_W} {nc ns : Nat} {Q : Option Value ⊕ Nat → qk_W → Nat → Nat → Prop}  (hw1 : wo w a0 6 fs2) (hf3 : fs2[0]? = some (.ref c4)) (hb : wo w c4 3 fsb) (h8 : (st.map fun v => Value.category v).sum ≤ 8) (k : Ev d m_Ns_include 0 [some (.ref c4), some (.int x4), some (.int (x5 - 1)), none, none, none, none, none] [] w nc ns (fun r w1 nc1 ns1 => match r with | .inl v => Ev (d + 1) m_Tr_keep 120 [some (.ref a0), o1, o2, o3, some (.int x4), some (.int x5), o6, o7] (v.toList ++ st) w1 nc1 ns1 Q | .inr x => Q (.inr x) w1 nc1 ns1)) : Ev (d + 1) m_Tr_keep 107 [some (.ref a0), o1, o2, o3, some (.int x4), some (.int x5), o6, o7] st w nc ns Q := by
  refine ev_aload_n d_Tr_keep_107 rfl rfl ?_
  refine ev_getf d_Tr_keep_108 fl_Tr_12 hw1.1 hw1.2 hf3 ?_
  refine ev_iload d_Tr_keep_111 rfl ?_
  refine ev_iload d_Tr_keep_113 rfl ?_
  refine ev_iconst 1 d_Tr_keep_115 (by decide) ?_
  refine ev_isub d_Tr_keep_116 ?_
  exact ev_call (M' := m_Ns_include) (As := [.ref c4, .int x4, .int (x5 - 1)]) (st := st) d_Tr_keep_117 i_Ns_include (fun h => absurd h (by decide +kernel)) cw_Tr_68 rfl rfl ⟨hb.1, 3, _, _, hb.2, rfl, rfl⟩ rfl (Nat.le_of_ble_eq_true rfl) h8 k
theorem t_Tr_keep_120 {d : Nat} {o0 : Option Value} {o1 : Option Value} {o2 : Option Value} {o3 : Option Value} {o4 : Option Value} {o5 : Option Value} {o6 : Option Value} {o7 : Option Value} {y0 : Int32} {w : qk_W} {nc ns : Nat} {Q : Option Value ⊕ Nat → qk_W → Nat → Nat → Prop}   (hq : Q (.inl (some (.int y0))) w nc ns) : Ev d m_Tr_keep 120 [o0, o1, o2, o3, o4, o5, o6, o7] [.int y0] w nc ns Q := by
  exact ev_iret d_Tr_keep_120 rfl rfl hq
/-! Tr_qualityOf -/
theorem d_Tr_qualityOf_0 : decode m_Tr_qualityOf.2.1 0 = .ok (.aload_n 0, 1) := by decide +kernel
theorem d_Tr_qualityOf_1 : decode m_Tr_qualityOf.2.1 1 = .ok (.getfield 12, 3) := by decide +kernel
theorem d_Tr_qualityOf_4 : decode m_Tr_qualityOf.2.1 4 = .ok (.iload_n 1, 1) := by decide +kernel
theorem d_Tr_qualityOf_5 : decode m_Tr_qualityOf.2.1 5 = .ok (.invokevirtual 24, 3) := by decide +kernel
theorem d_Tr_qualityOf_8 : decode m_Tr_qualityOf.2.1 8 = .ok (.ifCond .eq 20, 3) := by decide +kernel
theorem d_Tr_qualityOf_11 : decode m_Tr_qualityOf.2.1 11 = .ok (.aload_n 0, 1) := by decide +kernel
theorem d_Tr_qualityOf_12 : decode m_Tr_qualityOf.2.1 12 = .ok (.iload_n 1, 1) := by decide +kernel
theorem d_Tr_qualityOf_13 : decode m_Tr_qualityOf.2.1 13 = .ok (.invokevirtual 28, 3) := by decide +kernel
theorem d_Tr_qualityOf_16 : decode m_Tr_qualityOf.2.1 16 = .ok (.getfield 36, 3) := by decide +kernel
theorem d_Tr_qualityOf_19 : decode m_Tr_qualityOf.2.1 19 = .ok (.iload_n 1, 1) := by decide +kernel
theorem d_Tr_qualityOf_20 : decode m_Tr_qualityOf.2.1 20 = .ok (.sipush 1024, 3) := by decide +kernel
theorem d_Tr_qualityOf_23 : decode m_Tr_qualityOf.2.1 23 = .ok (.irem, 1) := by decide +kernel
theorem d_Tr_qualityOf_24 : decode m_Tr_qualityOf.2.1 24 = .ok (.baload, 1) := by decide +kernel
theorem d_Tr_qualityOf_25 : decode m_Tr_qualityOf.2.1 25 = .ok (.goto 4, 3) := by decide +kernel
theorem d_Tr_qualityOf_28 : decode m_Tr_qualityOf.2.1 28 = .ok (.iconst (-1), 1) := by decide +kernel
theorem d_Tr_qualityOf_29 : decode m_Tr_qualityOf.2.1 29 = .ok (.ireturn, 1) := by decide +kernel
theorem t_Tr_qualityOf_0 {d : Nat} {st : List Value} {a0 : Nat} {x1 : Int32} {fs2 : List Value} {c4 : Nat} {fsb : List Value} {w : qk_W} {nc ns : Nat} {Q : Option Value ⊕ Nat → qk_W → Nat → Nat → Prop}  (hw1 : wo w a0 6 fs2) (hf3 : fs2[0]? = some (.ref c4)) (hb : wo w c4 3 fsb) (h8 : (st.map fun v => Value.category v).sum ≤ 8) (k : Ev d m_Ns_contains 0 [some (.ref c4), some (.int x1)] [] w nc ns (fun r w1 nc1 ns1 => match r with | .inl v => Ev (d + 1) m_Tr_qualityOf 8 [some (.ref a0), some (.int x1)] (v.toList ++ st) w1 nc1 ns1 Q | .inr x => Q (.inr x) w1 nc1 ns1)) : Ev (d + 1) m_Tr_qualityOf 0 [some (.ref a0), some (.int x1)] st w nc ns Q := by
  refine ev_aload_n d_Tr_qualityOf_0 rfl rfl ?_
  refine ev_getf d_Tr_qualityOf_1 fl_Tr_12 hw1.1 hw1.2 hf3 ?_
  refine ev_iload_n d_Tr_qualityOf_4 rfl ?_
  exact ev_call (M' := m_Ns_contains) (As := [.ref c4, .int x1]) (st := st) d_Tr_qualityOf_5 i_Ns_contains (fun h => absurd h (by decide +kernel)) cw_Tr_24 rfl rfl ⟨hb.1, 3, _, _, hb.2, rfl, rfl⟩ rfl (Nat.le_of_ble_eq_true rfl) h8 k
theorem t_Tr_qualityOf_8 {d : Nat} {st : List Value} {o0 : Option Value} {o1 : Option Value} {y0 : Int32} {w : qk_W} {nc ns : Nat} {Q : Option Value ⊕ Nat → qk_W → Nat → Nat → Prop}   (kt : y0 = 0 → Ev d m_Tr_qualityOf 28 [o0, o1] st w nc ns Q) (kf : ¬ (y0 = 0) → Ev d m_Tr_qualityOf 11 [o0, o1] st w nc ns Q) : Ev d m_Tr_qualityOf 8 [o0, o1] (.int y0 :: st) w nc ns Q := by
  exact ev_if_eq 28 d_Tr_qualityOf_8 (by decide) kt kf
theorem t_Tr_qualityOf_11 {d : Nat} {st : List Value} {a0 : Nat} {x1 : Int32} {fsb : List Value} {w : qk_W} {nc ns : Nat} {Q : Option Value ⊕ Nat → qk_W → Nat → Nat → Prop}  (hb : wo w a0 6 fsb) (h8 : (st.map fun v => Value.category v).sum ≤ 8) (k : Ev d m_Tr_page 0 [some (.ref a0), some (.int x1), none] [] w nc ns (fun r w1 nc1 ns1 => match r with | .inl v => Ev (d + 1) m_Tr_qualityOf 16 [some (.ref a0), some (.int x1)] (v.toList ++ st) w1 nc1 ns1 Q | .inr x => Q (.inr x) w1 nc1 ns1)) : Ev (d + 1) m_Tr_qualityOf 11 [some (.ref a0), some (.int x1)] st w nc ns Q := by
  refine ev_aload_n d_Tr_qualityOf_11 rfl rfl ?_
  refine ev_iload_n d_Tr_qualityOf_12 rfl ?_
  exact ev_call (M' := m_Tr_page) (As := [.ref a0, .int x1]) (st := st) d_Tr_qualityOf_13 i_Tr_page (fun h => absurd h (by decide +kernel)) cw_Tr_28 rfl rfl ⟨hb.1, 6, _, _, hb.2, rfl, rfl⟩ rfl (Nat.le_of_ble_eq_true rfl) h8 k
theorem t_Tr_qualityOf_16 {d : Nat} {o0 : Option Value} {x1 : Int32} {b0 : Nat} {fs2 : List Value} {c4 : Nat} {n6 : Nat} {f7 : Nat → Int32} {w : qk_W} {nc ns : Nat} {Q : Option Value ⊕ Nat → qk_W → Nat → Nat → Prop}  (hw1 : wo w b0 10 fs2) (hf3 : fs2[1]? = some (.ref c4)) (ha5 : wb w c4 n6 f7) (hi8 : vp_in (qi_rem x1 1024) n6) (hq : Q (.inl (some (.int (f7 (qi_rem x1 1024).toNatClampNeg)))) w nc ns) : Ev d m_Tr_qualityOf 16 [o0, some (.int x1)] [.ref b0] w nc ns Q := by
  refine ev_getf d_Tr_qualityOf_16 fl_Tr_36 hw1.1 hw1.2 hf3 ?_
  refine ev_iload_n d_Tr_qualityOf_19 rfl ?_
  refine ev_sipush 1024 d_Tr_qualityOf_20 (by decide) ?_
  refine ev_irem d_Tr_qualityOf_23 (by decide) ?_
  refine ev_bald d_Tr_qualityOf_24 ha5.1 ha5.2 hi8 ?_
  refine ev_goto 29 d_Tr_qualityOf_25 (by decide) ?_
  exact ev_iret d_Tr_qualityOf_29 rfl rfl hq
theorem t_Tr_qualityOf_28 {d : Nat} {o0 : Option Value} {o1 : Option Value} {w : qk_W} {nc ns : Nat} {Q : Option Value ⊕ Nat → qk_W → Nat → Nat → Prop}   (hq : Q (.inl (some (.int (-1)))) w nc ns) : Ev d m_Tr_qualityOf 28 [o0, o1] [] w nc ns Q := by
  refine ev_iconst (-1) d_Tr_qualityOf_28 (by decide) ?_
  exact ev_iret d_Tr_qualityOf_29 rfl rfl hq
/-! Tr_howManyGaps -/
theorem cw_Tr_72 : qk_cw "QuakeLink$Track" m_Tr_startOfGapFrom.1 (.invokevirtual 72) := ⟨(lw_i4 _ (List.mem_of_getElem? (i := 131) rfl)), (lw_i2 _ (List.mem_of_getElem? (i := 134) rfl)), (lw_i2 _ (List.mem_of_getElem? (i := 135) rfl))⟩
theorem cw_Tr_76 : qk_cw "QuakeLink$Track" m_Tr_endOfGap.1 (.invokevirtual 76) := ⟨(lw_i4 _ (List.mem_of_getElem? (i := 132) rfl)), (lw_i2 _ (List.mem_of_getElem? (i := 143) rfl)), (lw_i2 _ (List.mem_of_getElem? (i := 144) rfl))⟩
theorem d_Tr_howManyGaps_0 : decode m_Tr_howManyGaps.2.1 0 = .ok (.iconst 0, 1) := by decide +kernel
theorem d_Tr_howManyGaps_1 : decode m_Tr_howManyGaps.2.1 1 = .ok (.istore_n 1, 1) := by decide +kernel
theorem d_Tr_howManyGaps_2 : decode m_Tr_howManyGaps.2.1 2 = .ok (.aload_n 0, 1) := by decide +kernel
theorem d_Tr_howManyGaps_3 : decode m_Tr_howManyGaps.2.1 3 = .ok (.iconst 0, 1) := by decide +kernel
theorem d_Tr_howManyGaps_4 : decode m_Tr_howManyGaps.2.1 4 = .ok (.invokevirtual 72, 3) := by decide +kernel
theorem d_Tr_howManyGaps_7 : decode m_Tr_howManyGaps.2.1 7 = .ok (.istore_n 2, 1) := by decide +kernel
theorem d_Tr_howManyGaps_8 : decode m_Tr_howManyGaps.2.1 8 = .ok (.iload_n 2, 1) := by decide +kernel
theorem d_Tr_howManyGaps_9 : decode m_Tr_howManyGaps.2.1 9 = .ok (.ldc 75, 2) := by decide +kernel
theorem d_Tr_howManyGaps_11 : decode m_Tr_howManyGaps.2.1 11 = .ok (.if_icmp .ge 27, 3) := by decide +kernel
theorem d_Tr_howManyGaps_14 : decode m_Tr_howManyGaps.2.1 14 = .ok (.iload_n 1, 1) := by decide +kernel
theorem d_Tr_howManyGaps_15 : decode m_Tr_howManyGaps.2.1 15 = .ok (.ldc 75, 2) := by decide +kernel
theorem d_Tr_howManyGaps_17 : decode m_Tr_howManyGaps.2.1 17 = .ok (.if_icmp .ge 21, 3) := by decide +kernel
theorem d_Tr_howManyGaps_20 : decode m_Tr_howManyGaps.2.1 20 = .ok (.iinc 1 1, 3) := by decide +kernel
theorem d_Tr_howManyGaps_23 : decode m_Tr_howManyGaps.2.1 23 = .ok (.aload_n 0, 1) := by decide +kernel
theorem d_Tr_howManyGaps_24 : decode m_Tr_howManyGaps.2.1 24 = .ok (.aload_n 0, 1) := by decide +kernel
theorem d_Tr_howManyGaps_25 : decode m_Tr_howManyGaps.2.1 25 = .ok (.iload_n 2, 1) := by decide +kernel
theorem d_Tr_howManyGaps_26 : decode m_Tr_howManyGaps.2.1 26 = .ok (.invokevirtual 76, 3) := by decide +kernel
theorem d_Tr_howManyGaps_29 : decode m_Tr_howManyGaps.2.1 29 = .ok (.iconst 1, 1) := by decide +kernel
theorem d_Tr_howManyGaps_30 : decode m_Tr_howManyGaps.2.1 30 = .ok (.iadd, 1) := by decide +kernel
theorem d_Tr_howManyGaps_31 : decode m_Tr_howManyGaps.2.1 31 = .ok (.invokevirtual 72, 3) := by decide +kernel
theorem d_Tr_howManyGaps_34 : decode m_Tr_howManyGaps.2.1 34 = .ok (.istore_n 2, 1) := by decide +kernel
theorem d_Tr_howManyGaps_35 : decode m_Tr_howManyGaps.2.1 35 = .ok (.goto (-27), 3) := by decide +kernel
theorem d_Tr_howManyGaps_38 : decode m_Tr_howManyGaps.2.1 38 = .ok (.iload_n 1, 1) := by decide +kernel
theorem d_Tr_howManyGaps_39 : decode m_Tr_howManyGaps.2.1 39 = .ok (.ireturn, 1) := by decide +kernel
theorem t_Tr_howManyGaps_0 {d : Nat} {st : List Value} {a0 : Nat} {o1 : Option Value} {o2 : Option Value} {fsb : List Value} {w : qk_W} {nc ns : Nat} {Q : Option Value ⊕ Nat → qk_W → Nat → Nat → Prop}  (hc1 : qk_c2 [some (.ref a0), o1, o2] 1 = true) (hb : wo w a0 6 fsb) (h8 : (st.map fun v => Value.category v).sum ≤ 8) (k : Ev d m_Tr_startOfGapFrom 0 [some (.ref a0), some (.int 0), none] [] w nc ns (fun r w1 nc1 ns1 => match r with | .inl v => Ev (d + 1) m_Tr_howManyGaps 7 [some (.ref a0), some (.int 0), o2] (v.toList ++ st) w1 nc1 ns1 Q | .inr x => Q (.inr x) w1 nc1 ns1)) : Ev (d + 1) m_Tr_howManyGaps 0 [some (.ref a0), o1, o2] st w nc ns Q := by
  refine ev_iconst 0 d_Tr_howManyGaps_0 (by decide) ?_
  refine ev_istore_n d_Tr_howManyGaps_1 (by decide) hc1 ?_
  refine ev_aload_n d_Tr_howManyGaps_2 rfl rfl ?_
  refine ev_iconst 0 d_Tr_howManyGaps_3 (by decide) ?_
  exact ev_call (M' := m_Tr_startOfGapFrom) (As := [.ref a0, .int 0]) (st := st) d_Tr_howManyGaps_4 i_Tr_startOfGapFrom (fun h => absurd h (by decide +kernel)) cw_Tr_72 rfl rfl ⟨hb.1, 6, _, _, hb.2, rfl, rfl⟩ rfl (Nat.le_of_ble_eq_true rfl) h8 k
theorem t_Tr_howManyGaps_7 {d : Nat} {st : List Value} {o0 : Option Value} {o1 : Option Value} {o2 : Option Value} {y0 : Int32} {w : qk_W} {nc ns : Nat} {Q : Option Value ⊕ Nat → qk_W → Nat → Nat → Prop}  (hc1 : qk_c2 [o0, o1, o2] 2 = true) (k : Ev d m_Tr_howManyGaps 8 [o0, o1, some (.int y0)] st w nc ns Q) : Ev d m_Tr_howManyGaps 7 [o0, o1, o2] (.int y0 :: st) w nc ns Q := by
  refine ev_istore_n d_Tr_howManyGaps_7 (by decide) hc1 ?_
  exact k
theorem t_Tr_howManyGaps_8 {d : Nat} {st : List Value} {o0 : Option Value} {o1 : Option Value} {x2 : Int32} {w : qk_W} {nc ns : Nat} {Q : Option Value ⊕ Nat → qk_W → Nat → Nat → Prop}   (kt : (32768 : Int32) ≤ x2 → Ev d m_Tr_howManyGaps 38 [o0, o1, some (.int x2)] st w nc ns Q) (kf : ¬ ((32768 : Int32) ≤ x2) → Ev d m_Tr_howManyGaps 14 [o0, o1, some (.int x2)] st w nc ns Q) : Ev d m_Tr_howManyGaps 8 [o0, o1, some (.int x2)] st w nc ns Q := by
  refine ev_iload_n d_Tr_howManyGaps_8 rfl ?_
  refine ev_ldc 32768 d_Tr_howManyGaps_9 lc_Tr_75 ?_
  exact ev_icmp_ge 38 d_Tr_howManyGaps_11 (by decide) kt kf
theorem t_Tr_howManyGaps_14 {d : Nat} {st : List Value} {o0 : Option Value} {x1 : Int32} {o2 : Option Value} {w : qk_W} {nc ns : Nat} {Q : Option Value ⊕ Nat → qk_W → Nat → Nat → Prop}   (kt : (32768 : Int32) ≤ x1 → Ev d m_Tr_howManyGaps 38 [o0, some (.int x1), o2] st w nc ns Q) (kf : ¬ ((32768 : Int32) ≤ x1) → Ev d m_Tr_howManyGaps 20 [o0, some (.int x1), o2] st w nc ns Q) : Ev d m_Tr_howManyGaps 14 [o0, some (.int x1), o2] st w nc ns Q := by
  refine ev_iload_n d_Tr_howManyGaps_14 rfl ?_
  refine ev_ldc 32768 d_Tr_howManyGaps_15 lc_Tr_75 ?_
  exact ev_icmp_ge 38 d_Tr_howManyGaps_17 (by decide) kt kf
theorem t_Tr_howManyGaps_20 {d : Nat} {st : List Value} {a0 : Nat} {x1 : Int32} {x2 : Int32} {fsb : List Value} {w : qk_W} {nc ns : Nat} {Q : Option Value ⊕ Nat → qk_W → Nat → Nat → Prop}  (hc1 : qk_c2 [some (.ref a0), some (.int x1), some (.int x2)] 1 = true) (hb : wo w a0 6 fsb) (h8 : ((.ref a0 :: st).map fun v => Value.category v).sum ≤ 8) (k : Ev d m_Tr_endOfGap 0 [some (.ref a0), some (.int x2)] [] w nc ns (fun r w1 nc1 ns1 => match r with | .inl v => Ev (d + 1) m_Tr_howManyGaps 29 [some (.ref a0), some (.int (x1 + 1)), some (.int x2)] (v.toList ++ (.ref a0 :: st)) w1 nc1 ns1 Q | .inr x => Q (.inr x) w1 nc1 ns1)) : Ev (d + 1) m_Tr_howManyGaps 20 [some (.ref a0), some (.int x1), some (.int x2)] st w nc ns Q := by
  refine ev_iinc 1 d_Tr_howManyGaps_20 (by decide) rfl (by decide) hc1 ?_
  refine ev_aload_n d_Tr_howManyGaps_23 rfl rfl ?_
  refine ev_aload_n d_Tr_howManyGaps_24 rfl rfl ?_
  refine ev_iload_n d_Tr_howManyGaps_25 rfl ?_
  exact ev_call (M' := m_Tr_endOfGap) (As := [.ref a0, .int x2]) (st := (.ref a0 :: st)) d_Tr_howManyGaps_26 i_Tr_endOfGap (fun h => absurd h (by decide +kernel)) cw_Tr_76 rfl rfl ⟨hb.1, 6, _, _, hb.2, rfl, rfl⟩ rfl (Nat.le_of_ble_eq_true rfl) h8 k
theorem t_Tr_howManyGaps_29 {d : Nat} {st : List Value} {o0 : Option Value} {o1 : Option Value} {o2 : Option Value} {y0 : Int32} {b1 : Nat} {fsb : List Value} {w : qk_W} {nc ns : Nat} {Q : Option Value ⊕ Nat → qk_W → Nat → Nat → Prop}  (hb : wo w b1 6 fsb) (h8 : (st.map fun v => Value.category v).sum ≤ 8) (k : Ev d m_Tr_startOfGapFrom 0 [some (.ref b1), some (.int (y0 + 1)), none] [] w nc ns (fun r w1 nc1 ns1 => match r with | .inl v => Ev (d + 1) m_Tr_howManyGaps 34 [o0, o1, o2] (v.toList ++ st) w1 nc1 ns1 Q | .inr x => Q (.inr x) w1 nc1 ns1)) : Ev (d + 1) m_Tr_howManyGaps 29 [o0, o1, o2] (.int y0 :: .ref b1 :: st) w nc ns Q := by
  refine ev_iconst 1 d_Tr_howManyGaps_29 (by decide) ?_
  refine ev_iadd d_Tr_howManyGaps_30 ?_
  exact ev_call (M' := m_Tr_startOfGapFrom) (As := [.ref b1, .int (y0 + 1)]) (st := st) d_Tr_howManyGaps_31 i_Tr_startOfGapFrom (fun h => absurd h (by decide +kernel)) cw_Tr_72 rfl rfl ⟨hb.1, 6, _, _, hb.2, rfl, rfl⟩ rfl (Nat.le_of_ble_eq_true rfl) h8 k
theorem t_Tr_howManyGaps_34 {d : Nat} {st : List Value} {o0 : Option Value} {o1 : Option Value} {o2 : Option Value} {y0 : Int32} {w : qk_W} {nc ns : Nat} {Q : Option Value ⊕ Nat → qk_W → Nat → Nat → Prop}  (hc1 : qk_c2 [o0, o1, o2] 2 = true) (k : Ev d m_Tr_howManyGaps 8 [o0, o1, some (.int y0)] st w nc ns Q) : Ev d m_Tr_howManyGaps 34 [o0, o1, o2] (.int y0 :: st) w nc ns Q := by
  refine ev_istore_n d_Tr_howManyGaps_34 (by decide) hc1 ?_
  refine ev_goto 8 d_Tr_howManyGaps_35 (by decide) ?_
  exact k
theorem t_Tr_howManyGaps_38 {d : Nat} {o0 : Option Value} {x1 : Int32} {o2 : Option Value} {w : qk_W} {nc ns : Nat} {Q : Option Value ⊕ Nat → qk_W → Nat → Nat → Prop}   (hq : Q (.inl (some (.int x1))) w nc ns) : Ev d m_Tr_howManyGaps 38 [o0, some (.int x1), o2] [] w nc ns Q := by
  refine ev_iload_n d_Tr_howManyGaps_38 rfl ?_
  exact ev_iret d_Tr_howManyGaps_39 rfl rfl hq
/-! Tr_startOfGap -/
theorem d_Tr_startOfGap_0 : decode m_Tr_startOfGap.2.1 0 = .ok (.iload_n 1, 1) := by decide +kernel
theorem d_Tr_startOfGap_1 : decode m_Tr_startOfGap.2.1 1 = .ok (.ifCond .ge 6, 3) := by decide +kernel
theorem d_Tr_startOfGap_4 : decode m_Tr_startOfGap.2.1 4 = .ok (.ldc 75, 2) := by decide +kernel
theorem d_Tr_startOfGap_6 : decode m_Tr_startOfGap.2.1 6 = .ok (.ireturn, 1) := by decide +kernel
theorem d_Tr_startOfGap_7 : decode m_Tr_startOfGap.2.1 7 = .ok (.aload_n 0, 1) := by decide +kernel
theorem d_Tr_startOfGap_8 : decode m_Tr_startOfGap.2.1 8 = .ok (.iconst 0, 1) := by decide +kernel
theorem d_Tr_startOfGap_9 : decode m_Tr_startOfGap.2.1 9 = .ok (.invokevirtual 72, 3) := by decide +kernel
theorem d_Tr_startOfGap_12 : decode m_Tr_startOfGap.2.1 12 = .ok (.istore_n 2, 1) := by decide +kernel
theorem d_Tr_startOfGap_13 : decode m_Tr_startOfGap.2.1 13 = .ok (.iconst 0, 1) := by decide +kernel
theorem d_Tr_startOfGap_14 : decode m_Tr_startOfGap.2.1 14 = .ok (.istore_n 3, 1) := by decide +kernel
theorem d_Tr_startOfGap_15 : decode m_Tr_startOfGap.2.1 15 = .ok (.iload_n 3, 1) := by decide +kernel
theorem d_Tr_startOfGap_16 : decode m_Tr_startOfGap.2.1 16 = .ok (.iload_n 1, 1) := by decide +kernel
theorem d_Tr_startOfGap_17 : decode m_Tr_startOfGap.2.1 17 = .ok (.if_icmp .ge 27, 3) := by decide +kernel
theorem d_Tr_startOfGap_20 : decode m_Tr_startOfGap.2.1 20 = .ok (.iload_n 2, 1) := by decide +kernel
theorem d_Tr_startOfGap_21 : decode m_Tr_startOfGap.2.1 21 = .ok (.ldc 75, 2) := by decide +kernel
theorem d_Tr_startOfGap_23 : decode m_Tr_startOfGap.2.1 23 = .ok (.if_icmp .ge 21, 3) := by decide +kernel
theorem d_Tr_startOfGap_26 : decode m_Tr_startOfGap.2.1 26 = .ok (.aload_n 0, 1) := by decide +kernel
theorem d_Tr_startOfGap_27 : decode m_Tr_startOfGap.2.1 27 = .ok (.aload_n 0, 1) := by decide +kernel
theorem d_Tr_startOfGap_28 : decode m_Tr_startOfGap.2.1 28 = .ok (.iload_n 2, 1) := by decide +kernel
theorem d_Tr_startOfGap_29 : decode m_Tr_startOfGap.2.1 29 = .ok (.invokevirtual 76, 3) := by decide +kernel
theorem d_Tr_startOfGap_32 : decode m_Tr_startOfGap.2.1 32 = .ok (.iconst 1, 1) := by decide +kernel
theorem d_Tr_startOfGap_33 : decode m_Tr_startOfGap.2.1 33 = .ok (.iadd, 1) := by decide +kernel
theorem d_Tr_startOfGap_34 : decode m_Tr_startOfGap.2.1 34 = .ok (.invokevirtual 72, 3) := by decide +kernel
theorem d_Tr_startOfGap_37 : decode m_Tr_startOfGap.2.1 37 = .ok (.istore_n 2, 1) := by decide +kernel
theorem d_Tr_startOfGap_38 : decode m_Tr_startOfGap.2.1 38 = .ok (.iinc 3 1, 3) := by decide +kernel
theorem d_Tr_startOfGap_41 : decode m_Tr_startOfGap.2.1 41 = .ok (.goto (-26), 3) := by decide +kernel
theorem d_Tr_startOfGap_44 : decode m_Tr_startOfGap.2.1 44 = .ok (.iload_n 2, 1) := by decide +kernel
theorem d_Tr_startOfGap_45 : decode m_Tr_startOfGap.2.1 45 = .ok (.ireturn, 1) := by decide +kernel
theorem t_Tr_startOfGap_0 {d : Nat} {st : List Value} {o0 : Option Value} {x1 : Int32} {o2 : Option Value} {o3 : Option Value} {w : qk_W} {nc ns : Nat} {Q : Option Value ⊕ Nat → qk_W → Nat → Nat → Prop}   (kt : 0 ≤ x1 → Ev d m_Tr_startOfGap 7 [o0, some (.int x1), o2, o3] st w nc ns Q) (kf : ¬ (0 ≤ x1) → Ev d m_Tr_startOfGap 4 [o0, some (.int x1), o2, o3] st w nc ns Q) : Ev d m_Tr_startOfGap 0 [o0, some (.int x1), o2, o3] st w nc ns Q := by
  refine ev_iload_n d_Tr_startOfGap_0 rfl ?_
  exact ev_if_ge 7 d_Tr_startOfGap_1 (by decide) kt kf
theorem t_Tr_startOfGap_4 {d : Nat} {o0 : Option Value} {o1 : Option Value} {o2 : Option Value} {o3 : Option Value} {w : qk_W} {nc ns : Nat} {Q : Option Value ⊕ Nat → qk_W → Nat → Nat → Prop}   (hq : Q (.inl (some (.int 32768))) w nc ns) : Ev d m_Tr_startOfGap 4 [o0, o1, o2, o3] [] w nc ns Q := by
  refine ev_ldc 32768 d_Tr_startOfGap_4 lc_Tr_75 ?_
  exact ev_iret d_Tr_startOfGap_6 rfl rfl hq
theorem t_Tr_startOfGap_7 {d : Nat} {st : List Value} {a0 : Nat} {o1 : Option Value} {o2 : Option Value} {o3 : Option Value} {fsb : List Value} {w : qk_W} {nc ns : Nat} {Q : Option Value ⊕ Nat → qk_W → Nat → Nat → Prop}  (hb : wo w a0 6 fsb) (h8 : (st.map fun v => Value.category v).sum ≤ 8) (k : Ev d m_Tr_startOfGapFrom 0 [some (.ref a0), some (.int 0), none] [] w nc ns (fun r w1 nc1 ns1 => match r with | .inl v => Ev (d + 1) m_Tr_startOfGap 12 [some (.ref a0), o1, o2, o3] (v.toList ++ st) w1 nc1 ns1 Q | .inr x => Q (.inr x) w1 nc1 ns1)) : Ev (d + 1) m_Tr_startOfGap 7 [some (.ref a0), o1, o2, o3] st w nc ns Q := by
  refine ev_aload_n d_Tr_startOfGap_7 rfl rfl ?_
  refine ev_iconst 0 d_Tr_startOfGap_8 (by decide) ?_
  exact ev_call (M' := m_Tr_startOfGapFrom) (As := [.ref a0, .int 0]) (st := st) d_Tr_startOfGap_9 i_Tr_startOfGapFrom (fun h => absurd h (by decide +kernel)) cw_Tr_72 rfl rfl ⟨hb.1, 6, _, _, hb.2, rfl, rfl⟩ rfl (Nat.le_of_ble_eq_true rfl) h8 k
theorem t_Tr_startOfGap_12 {d : Nat} {st : List Value} {o0 : Option Value} {o1 : Option Value} {o2 : Option Value} {o3 : Option Value} {y0 : Int32} {w : qk_W} {nc ns : Nat} {Q : Option Value ⊕ Nat → qk_W → Nat → Nat → Prop}  (hc1 : qk_c2 [o0, o1, o2, o3] 2 = true) (k : Ev d m_Tr_startOfGap 15 [o0, o1, some (.int y0), some (.int 0)] st w nc ns Q) : Ev d m_Tr_startOfGap 12 [o0, o1, o2, o3] (.int y0 :: st) w nc ns Q := by
  refine ev_istore_n d_Tr_startOfGap_12 (by decide) hc1 ?_
  refine ev_iconst 0 d_Tr_startOfGap_13 (by decide) ?_
  refine ev_istore_n d_Tr_startOfGap_14 (by decide) rfl ?_
  exact k
theorem t_Tr_startOfGap_15 {d : Nat} {st : List Value} {o0 : Option Value} {x1 : Int32} {o2 : Option Value} {x3 : Int32} {w : qk_W} {nc ns : Nat} {Q : Option Value ⊕ Nat → qk_W → Nat → Nat → Prop}   (kt : x1 ≤ x3 → Ev d m_Tr_startOfGap 44 [o0, some (.int x1), o2, some (.int x3)] st w nc ns Q) (kf : ¬ (x1 ≤ x3) → Ev d m_Tr_startOfGap 20 [o0, some (.int x1), o2, some (.int x3)] st w nc ns Q) : Ev d m_Tr_startOfGap 15 [o0, some (.int x1), o2, some (.int x3)] st w nc ns Q := by
  refine ev_iload_n d_Tr_startOfGap_15 rfl ?_
  refine ev_iload_n d_Tr_startOfGap_16 rfl ?_
  exact ev_icmp_ge 44 d_Tr_startOfGap_17 (by decide) kt kf
theorem t_Tr_startOfGap_20 {d : Nat} {st : List Value} {o0 : Option Value} {o1 : Option Value} {x2 : Int32} {o3 : Option Value} {w : qk_W} {nc ns : Nat} {Q : Option Value ⊕ Nat → qk_W → Nat → Nat → Prop}   (kt : (32768 : Int32) ≤ x2 → Ev d m_Tr_startOfGap 44 [o0, o1, some (.int x2), o3] st w nc ns Q) (kf : ¬ ((32768 : Int32) ≤ x2) → Ev d m_Tr_startOfGap 26 [o0, o1, some (.int x2), o3] st w nc ns Q) : Ev d m_Tr_startOfGap 20 [o0, o1, some (.int x2), o3] st w nc ns Q := by
  refine ev_iload_n d_Tr_startOfGap_20 rfl ?_
  refine ev_ldc 32768 d_Tr_startOfGap_21 lc_Tr_75 ?_
  exact ev_icmp_ge 44 d_Tr_startOfGap_23 (by decide) kt kf
theorem t_Tr_startOfGap_26 {d : Nat} {st : List Value} {a0 : Nat} {o1 : Option Value} {x2 : Int32} {o3 : Option Value} {fsb : List Value} {w : qk_W} {nc ns : Nat} {Q : Option Value ⊕ Nat → qk_W → Nat → Nat → Prop}  (hb : wo w a0 6 fsb) (h8 : ((.ref a0 :: st).map fun v => Value.category v).sum ≤ 8) (k : Ev d m_Tr_endOfGap 0 [some (.ref a0), some (.int x2)] [] w nc ns (fun r w1 nc1 ns1 => match r with | .inl v => Ev (d + 1) m_Tr_startOfGap 32 [some (.ref a0), o1, some (.int x2), o3] (v.toList ++ (.ref a0 :: st)) w1 nc1 ns1 Q | .inr x => Q (.inr x) w1 nc1 ns1)) : Ev (d + 1) m_Tr_startOfGap 26 [some (.ref a0), o1, some (.int x2), o3] st w nc ns Q := by
  refine ev_aload_n d_Tr_startOfGap_26 rfl rfl ?_
  refine ev_aload_n d_Tr_startOfGap_27 rfl rfl ?_
  refine ev_iload_n d_Tr_startOfGap_28 rfl ?_
  exact ev_call (M' := m_Tr_endOfGap) (As := [.ref a0, .int x2]) (st := (.ref a0 :: st)) d_Tr_startOfGap_29 i_Tr_endOfGap (fun h => absurd h (by decide +kernel)) cw_Tr_76 rfl rfl ⟨hb.1, 6, _, _, hb.2, rfl, rfl⟩ rfl (Nat.le_of_ble_eq_true rfl) h8 k
theorem t_Tr_startOfGap_32 {d : Nat} {st : List Value} {o0 : Option Value} {o1 : Option Value} {o2 : Option Value} {o3 : Option Value} {y0 : Int32} {b1 : Nat} {fsb : List Value} {w : qk_W} {nc ns : Nat} {Q : Option Value ⊕ Nat → qk_W → Nat → Nat → Prop}  (hb : wo w b1 6 fsb) (h8 : (st.map fun v => Value.category v).sum ≤ 8) (k : Ev d m_Tr_startOfGapFrom 0 [some (.ref b1), some (.int (y0 + 1)), none] [] w nc ns (fun r w1 nc1 ns1 => match r with | .inl v => Ev (d + 1) m_Tr_startOfGap 37 [o0, o1, o2, o3] (v.toList ++ st) w1 nc1 ns1 Q | .inr x => Q (.inr x) w1 nc1 ns1)) : Ev (d + 1) m_Tr_startOfGap 32 [o0, o1, o2, o3] (.int y0 :: .ref b1 :: st) w nc ns Q := by
  refine ev_iconst 1 d_Tr_startOfGap_32 (by decide) ?_
  refine ev_iadd d_Tr_startOfGap_33 ?_
  exact ev_call (M' := m_Tr_startOfGapFrom) (As := [.ref b1, .int (y0 + 1)]) (st := st) d_Tr_startOfGap_34 i_Tr_startOfGapFrom (fun h => absurd h (by decide +kernel)) cw_Tr_72 rfl rfl ⟨hb.1, 6, _, _, hb.2, rfl, rfl⟩ rfl (Nat.le_of_ble_eq_true rfl) h8 k
theorem t_Tr_startOfGap_37 {d : Nat} {st : List Value} {o0 : Option Value} {o1 : Option Value} {o2 : Option Value} {x3 : Int32} {y0 : Int32} {w : qk_W} {nc ns : Nat} {Q : Option Value ⊕ Nat → qk_W → Nat → Nat → Prop}  (hc1 : qk_c2 [o0, o1, o2, some (.int x3)] 2 = true) (k : Ev d m_Tr_startOfGap 15 [o0, o1, some (.int y0), some (.int (x3 + 1))] st w nc ns Q) : Ev d m_Tr_startOfGap 37 [o0, o1, o2, some (.int x3)] (.int y0 :: st) w nc ns Q := by
  refine ev_istore_n d_Tr_startOfGap_37 (by decide) hc1 ?_
  refine ev_iinc 1 d_Tr_startOfGap_38 (by decide) rfl (by decide) rfl ?_
  refine ev_goto 15 d_Tr_startOfGap_41 (by decide) ?_
  exact k
theorem t_Tr_startOfGap_44 {d : Nat} {o0 : Option Value} {o1 : Option Value} {x2 : Int32} {o3 : Option Value} {w : qk_W} {nc ns : Nat} {Q : Option Value ⊕ Nat → qk_W → Nat → Nat → Prop}   (hq : Q (.inl (some (.int x2))) w nc ns) : Ev d m_Tr_startOfGap 44 [o0, o1, some (.int x2), o3] [] w nc ns Q := by
  refine ev_iload_n d_Tr_startOfGap_44 rfl ?_
  exact ev_iret d_Tr_startOfGap_45 rfl rfl hq
