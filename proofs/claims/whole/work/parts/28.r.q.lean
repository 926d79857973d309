/-! Q_init -/
theorem ob_Q_1 : Cond.methodLink "QuakeLink" 1 Lib.objectInit ∈ lw_tbl := (lw_i1 _ (List.mem_of_getElem? (i := 27) rfl))
theorem nl_Q_7 : qk_nl "QuakeLink" 7 1 [.null, .int 0, .int 0, .int 0, .int 0] := ⟨_, rfl, by decide, (lw_i1 _ (List.mem_of_getElem? (i := 30) rfl)), rfl, rfl⟩
theorem cw_Q_9 : qk_cw "QuakeLink" m_St_init.1 (.invokespecial 9) := ⟨rfl, Or.inl (lw_i1 _ (List.mem_of_getElem? (i := 32) rfl)), (lw_i1 _ (List.mem_of_getElem? (i := 33) rfl))⟩
theorem fl_Q_10 : qk_fl "QuakeLink" 10 0 0 := ⟨_, rfl, by decide, rfl, (lw_i1 _ (List.mem_of_getElem? (i := 162) rfl))⟩
theorem nl_Q_16 : qk_nl "QuakeLink" 16 4 [.null, .int 0] := ⟨_, rfl, by decide, (lw_i1 _ (List.mem_of_getElem? (i := 104) rfl)), rfl, rfl⟩
theorem cw_Q_18 : qk_cw "QuakeLink" m_Ai_init.1 (.invokespecial 18) := ⟨rfl, Or.inr ⟨"QuakeLink", (lw_i1 _ (List.mem_of_getElem? (i := 106) rfl))⟩, (lw_i1 _ (List.mem_of_getElem? (i := 107) rfl))⟩
theorem fl_Q_19 : qk_fl "QuakeLink" 19 0 1 := ⟨_, rfl, by decide, rfl, (lw_i1 _ (List.mem_of_getElem? (i := 163) rfl))⟩
theorem nl_Q_23 : qk_nl "QuakeLink" 23 5 [.null, .int 0, .int 0] := ⟨_, rfl, by decide, (lw_i1 _ (List.mem_of_getElem? (i := 120) rfl)), rfl, rfl⟩
theorem cw_Q_25 : qk_cw "QuakeLink" m_Ce_init.1 (.invokespecial 25) := ⟨rfl, Or.inl (lw_i1 _ (List.mem_of_getElem? (i := 122) rfl)), (lw_i1 _ (List.mem_of_getElem? (i := 123) rfl))⟩
theorem fl_Q_26 : qk_fl "QuakeLink" 26 0 2 := ⟨_, rfl, by decide, rfl, (lw_i1 _ (List.mem_of_getElem? (i := 164) rfl))⟩
theorem d_Q_init_0 : decode m_Q_init.2.1 0 = .ok (.aload_n 0, 1) := by decide +kernel
theorem d_Q_init_1 : decode m_Q_init.2.1 1 = .ok (.invokespecial 1, 3) := by decide +kernel
theorem d_Q_init_4 : decode m_Q_init.2.1 4 = .ok (.aload_n 0, 1) := by decide +kernel
theorem d_Q_init_5 : decode m_Q_init.2.1 5 = .ok (.new 7, 3) := by decide +kernel
theorem d_Q_init_8 : decode m_Q_init.2.1 8 = .ok (.dup, 1) := by decide +kernel
theorem d_Q_init_9 : decode m_Q_init.2.1 9 = .ok (.invokespecial 9, 3) := by decide +kernel
theorem d_Q_init_12 : decode m_Q_init.2.1 12 = .ok (.putfield 10, 3) := by decide +kernel
theorem d_Q_init_15 : decode m_Q_init.2.1 15 = .ok (.aload_n 0, 1) := by decide +kernel
theorem d_Q_init_16 : decode m_Q_init.2.1 16 = .ok (.new 16, 3) := by decide +kernel
theorem d_Q_init_19 : decode m_Q_init.2.1 19 = .ok (.dup, 1) := by decide +kernel
theorem d_Q_init_20 : decode m_Q_init.2.1 20 = .ok (.invokespecial 18, 3) := by decide +kernel
theorem d_Q_init_23 : decode m_Q_init.2.1 23 = .ok (.putfield 19, 3) := by decide +kernel
theorem d_Q_init_26 : decode m_Q_init.2.1 26 = .ok (.aload_n 0, 1) := by decide +kernel
theorem d_Q_init_27 : decode m_Q_init.2.1 27 = .ok (.new 23, 3) := by decide +kernel
theorem d_Q_init_30 : decode m_Q_init.2.1 30 = .ok (.dup, 1) := by decide +kernel
theorem d_Q_init_31 : decode m_Q_init.2.1 31 = .ok (.invokespecial 25, 3) := by decide +kernel
theorem d_Q_init_34 : decode m_Q_init.2.1 34 = .ok (.putfield 26, 3) := by decide +kernel
theorem d_Q_init_37 : decode m_Q_init.2.1 37 = .ok (.return_, 1) := by decide +kernel
theorem t_Q_init_0 {d : Nat} {st : List Value} {a0 : Nat} {w : qk_W} {nc ns : Nat} {Q : Option Value ⊕ Nat → qk_W → Nat → Nat → Prop}  (h8 : (st.map fun v => Value.category v).sum ≤ 8) (k : Ev (d + 1) m_Q_init 4 [some (.ref a0)] st w nc ns Q) : Ev (d + 1) m_Q_init 0 [some (.ref a0)] st w nc ns Q := by
  refine ev_aload_n d_Q_init_0 rfl rfl ?_
  exact ev_obj d_Q_init_1 ob_Q_1 ob_inst ob_code (by omega) h8 k
theorem t_Q_init_4 {d : Nat} {st : List Value} {v0 : Value} {w : qk_W} {nc ns : Nat} {Q : Option Value ⊕ Nat → qk_W → Nat → Nat → Prop} (hv0 : qk_isr v0 = true) (v : Nat) (hv : 16 ≤ v) (hn : w v = none) (k : Ev d m_Q_init 8 [some v0] (.ref v :: v0 :: st) (qk_set w v (.inr (1, [.null, .int 0, .int 0, .int 0, .int 0]))) (nc + 1) (ns + 5) Q) : Ev d m_Q_init 4 [some v0] st w nc ns Q := by
  refine ev_aload_n d_Q_init_4 rfl hv0 ?_
  exact ev_new v d_Q_init_5 nl_Q_7 hv hn k
theorem t_Q_init_8 {d : Nat} {st : List Value} {o0 : Option Value} {b0 : Nat} {w : qk_W} {nc ns : Nat} {Q : Option Value ⊕ Nat → qk_W → Nat → Nat → Prop}  (h8 : ((.ref b0 :: st).map fun v => Value.category v).sum ≤ 8) (k : Ev d m_St_init 0 [some (.ref b0), none] [] w nc ns (fun r w1 nc1 ns1 => match r with | .inl v => Ev (d + 1) m_Q_init 12 [o0] (v.toList ++ (.ref b0 :: st)) w1 nc1 ns1 Q | .inr x => Q (.inr x) w1 nc1 ns1)) : Ev (d + 1) m_Q_init 8 [o0] (.ref b0 :: st) w nc ns Q := by
  refine ev_dup d_Q_init_8 rfl ?_
  exact ev_call (M' := m_St_init) (As := [.ref b0]) (st := (.ref b0 :: st)) d_Q_init_9 i_St_init ii_St_init cw_Q_9 rfl rfl trivial rfl (Nat.le_of_ble_eq_true rfl) h8 k
theorem t_Q_init_12 {d : Nat} {st : List Value} {o0 : Option Value} {s0 : Value} {b1 : Nat} {fs2 : List Value} {w : qk_W} {nc ns : Nat} {Q : Option Value ⊕ Nat → qk_W → Nat → Nat → Prop} (hs0 : qk_isr s0 = true) (hw1 : wo w b1 0 fs2) (hk : 0 < fs2.length) (hz : qk_fit (qk_fty 0 0) s0 = true) (k : Ev d m_Q_init 15 [o0] st (qk_set w b1 (.inr (0, fs2.set 0 (s0)))) nc ns Q) : Ev d m_Q_init 12 [o0] (s0 :: .ref b1 :: st) w nc ns Q := by
  exact ev_putF d_Q_init_12 fl_Q_10 rfl rfl rfl hw1.1 hw1.2 hk hz k
theorem t_Q_init_15 {d : Nat} {st : List Value} {v0 : Value} {w : qk_W} {nc ns : Nat} {Q : Option Value ⊕ Nat → qk_W → Nat → Nat → Prop} (hv0 : qk_isr v0 = true) (v : Nat) (hv : 16 ≤ v) (hn : w v = none) (k : Ev d m_Q_init 19 [some v0] (.ref v :: v0 :: st) (qk_set w v (.inr (4, [.null, .int 0]))) (nc + 1) (ns + 2) Q) : Ev d m_Q_init 15 [some v0] st w nc ns Q := by
  refine ev_aload_n d_Q_init_15 rfl hv0 ?_
  exact ev_new v d_Q_init_16 nl_Q_16 hv hn k
theorem t_Q_init_19 {d : Nat} {st : List Value} {o0 : Option Value} {b0 : Nat} {w : qk_W} {nc ns : Nat} {Q : Option Value ⊕ Nat → qk_W → Nat → Nat → Prop}  (h8 : ((.ref b0 :: st).map fun v => Value.category v).sum ≤ 8) (k : Ev d m_Ai_init 0 [some (.ref b0)] [] w nc ns (fun r w1 nc1 ns1 => match r with | .inl v => Ev (d + 1) m_Q_init 23 [o0] (v.toList ++ (.ref b0 :: st)) w1 nc1 ns1 Q | .inr x => Q (.inr x) w1 nc1 ns1)) : Ev (d + 1) m_Q_init 19 [o0] (.ref b0 :: st) w nc ns Q := by
  refine ev_dup d_Q_init_19 rfl ?_
  exact ev_call (M' := m_Ai_init) (As := [.ref b0]) (st := (.ref b0 :: st)) d_Q_init_20 i_Ai_init ii_Ai_init cw_Q_18 rfl rfl trivial rfl (Nat.le_of_ble_eq_true rfl) h8 k
theorem t_Q_init_23 {d : Nat} {st : List Value} {o0 : Option Value} {s0 : Value} {b1 : Nat} {fs2 : List Value} {w : qk_W} {nc ns : Nat} {Q : Option Value ⊕ Nat → qk_W → Nat → Nat → Prop} (hs0 : qk_isr s0 = true) (hw1 : wo w b1 0 fs2) (hk : 1 < fs2.length) (hz : qk_fit (qk_fty 0 1) s0 = true) (k : Ev d m_Q_init 26 [o0] st (qk_set w b1 (.inr (0, fs2.set 1 (s0)))) nc ns Q) : Ev d m_Q_init 23 [o0] (s0 :: .ref b1 :: st) w nc ns Q := by
  exact ev_putF d_Q_init_23 fl_Q_19 rfl rfl rfl hw1.1 hw1.2 hk hz k
theorem t_Q_init_26 {d : Nat} {st : List Value} {v0 : Value} {w : qk_W} {nc ns : Nat} {Q : Option Value ⊕ Nat → qk_W → Nat → Nat → Prop} (hv0 : qk_isr v0 = true) (v : Nat) (hv : 16 ≤ v) (hn : w v = none) (k : Ev d m_Q_init 30 [some v0] (.ref v :: v0 :: st) (qk_set w v (.inr (5, [.null, .int 0, .int 0]))) (nc + 1) (ns + 3) Q) : Ev d m_Q_init 26 [some v0] st w nc ns Q := by
  refine ev_aload_n d_Q_init_26 rfl hv0 ?_
  exact ev_new v d_Q_init_27 nl_Q_23 hv hn k
theorem t_Q_init_30 {d : Nat} {st : List Value} {o0 : Option Value} {b0 : Nat} {w : qk_W} {nc ns : Nat} {Q : Option Value ⊕ Nat → qk_W → Nat → Nat → Prop}  (h8 : ((.ref b0 :: st).map fun v => Value.category v).sum ≤ 8) (k : Ev d m_Ce_init 0 [some (.ref b0), none] [] w nc ns (fun r w1 nc1 ns1 => match r with | .inl v => Ev (d + 1) m_Q_init 34 [o0] (v.toList ++ (.ref b0 :: st)) w1 nc1 ns1 Q | .inr x => Q (.inr x) w1 nc1 ns1)) : Ev (d + 1) m_Q_init 30 [o0] (.ref b0 :: st) w nc ns Q := by
  refine ev_dup d_Q_init_30 rfl ?_
  exact ev_call (M' := m_Ce_init) (As := [.ref b0]) (st := (.ref b0 :: st)) d_Q_init_31 i_Ce_init ii_Ce_init cw_Q_25 rfl rfl trivial rfl (Nat.le_of_ble_eq_true rfl) h8 k
theorem t_Q_init_34 {d : Nat} {st : List Value} {o0 : Option Value} {s0 : Value} {b1 : Nat} {fs2 : List Value} {w : qk_W} {nc ns : Nat} {Q : Option Value ⊕ Nat → qk_W → Nat → Nat → Prop} (hs0 : qk_isr s0 = true) (hw1 : wo w b1 0 fs2) (hk : 2 < fs2.length) (hz : qk_fit (qk_fty 0 2) s0 = true) (k : Ev d m_Q_init 37 [o0] st (qk_set w b1 (.inr (0, fs2.set 2 (s0)))) nc ns Q) : Ev d m_Q_init 34 [o0] (s0 :: .ref b1 :: st) w nc ns Q := by
  exact ev_putF d_Q_init_34 fl_Q_26 rfl rfl rfl hw1.1 hw1.2 hk hz k
theorem t_Q_init_37 {d : Nat} {o0 : Option Value} {w : qk_W} {nc ns : Nat} {Q : Option Value ⊕ Nat → qk_W → Nat → Nat → Prop}   (hq : Q (.inl none) w nc ns) : Ev d m_Q_init 37 [o0] [] w nc ns Q := by
  exact ev_vret d_Q_init_37 rfl hq
/-! Q_turn -/
theorem cw_Q_67 : qk_cw "QuakeLink" m_St_sendNext.1 (.invokevirtual 67) := ⟨(lw_i1 _ (List.mem_of_getElem? (i := 176) rfl)), (lw_i1 _ (List.mem_of_getElem? (i := 177) rfl)), (lw_i1 _ (List.mem_of_getElem? (i := 178) rfl))⟩
theorem cw_Q_71 : qk_cw "QuakeLink" m_Ai_latest.1 (.invokevirtual 71) := ⟨(lw_i2 _ (List.mem_of_getElem? (i := 120) rfl)), (lw_i2 _ (List.mem_of_getElem? (i := 121) rfl)), (lw_i2 _ (List.mem_of_getElem? (i := 122) rfl))⟩
theorem d_Q_turn_0 : decode m_Q_turn.2.1 0 = .ok (.aload_n 0, 1) := by decide +kernel
theorem d_Q_turn_1 : decode m_Q_turn.2.1 1 = .ok (.getfield 10, 3) := by decide +kernel
theorem d_Q_turn_4 : decode m_Q_turn.2.1 4 = .ok (.aload_n 0, 1) := by decide +kernel
theorem d_Q_turn_5 : decode m_Q_turn.2.1 5 = .ok (.getfield 19, 3) := by decide +kernel
theorem d_Q_turn_8 : decode m_Q_turn.2.1 8 = .ok (.invokevirtual 67, 3) := by decide +kernel
theorem d_Q_turn_11 : decode m_Q_turn.2.1 11 = .ok (.ifCond .eq 13, 3) := by decide +kernel
theorem d_Q_turn_14 : decode m_Q_turn.2.1 14 = .ok (.aload_n 0, 1) := by decide +kernel
theorem d_Q_turn_15 : decode m_Q_turn.2.1 15 = .ok (.getfield 19, 3) := by decide +kernel
theorem d_Q_turn_18 : decode m_Q_turn.2.1 18 = .ok (.invokevirtual 71, 3) := by decide +kernel
theorem d_Q_turn_21 : decode m_Q_turn.2.1 21 = .ok (.goto 4, 3) := by decide +kernel
theorem d_Q_turn_24 : decode m_Q_turn.2.1 24 = .ok (.iconst (-1), 1) := by decide +kernel
theorem d_Q_turn_25 : decode m_Q_turn.2.1 25 = .ok (.ireturn, 1) := by decide +kernel
theorem t_Q_turn_0 {d : Nat} {st : List Value} {a0 : Nat} {fs2 : List Value} {c4 : Nat} {c8 : Nat} {fsb : List Value} {w : qk_W} {nc ns : Nat} {Q : Option Value ⊕ Nat → qk_W → Nat → Nat → Prop}  (hw1 : wo w a0 0 fs2) (hf3 : fs2[0]? = some (.ref c4)) (hf7 : fs2[1]? = some (.ref c8)) (hb : wo w c4 1 fsb) (h8 : (st.map fun v => Value.category v).sum ≤ 8) (k : Ev d m_St_sendNext 0 [some (.ref c4), some (.ref c8), none, none] [] w nc ns (fun r w1 nc1 ns1 => match r with | .inl v => Ev (d + 1) m_Q_turn 11 [some (.ref a0)] (v.toList ++ st) w1 nc1 ns1 Q | .inr x => Q (.inr x) w1 nc1 ns1)) : Ev (d + 1) m_Q_turn 0 [some (.ref a0)] st w nc ns Q := by
  refine ev_aload_n d_Q_turn_0 rfl rfl ?_
  refine ev_getf d_Q_turn_1 fl_Q_10 hw1.1 hw1.2 hf3 ?_
  refine ev_aload_n d_Q_turn_4 rfl rfl ?_
  refine ev_getf d_Q_turn_5 fl_Q_19 hw1.1 hw1.2 hf7 ?_
  exact ev_call (M' := m_St_sendNext) (As := [.ref c4, .ref c8]) (st := st) d_Q_turn_8 i_St_sendNext (fun h => absurd h (by decide +kernel)) cw_Q_67 rfl rfl ⟨hb.1, 1, _, _, hb.2, rfl, rfl⟩ rfl (Nat.le_of_ble_eq_true rfl) h8 k
theorem t_Q_turn_11 {d : Nat} {st : List Value} {o0 : Option Value} {y0 : Int32} {w : qk_W} {nc ns : Nat} {Q : Option Value ⊕ Nat → qk_W → Nat → Nat → Prop}   (kt : y0 = 0 → Ev d m_Q_turn 24 [o0] st w nc ns Q) (kf : ¬ (y0 = 0) → Ev d m_Q_turn 14 [o0] st w nc ns Q) : Ev d m_Q_turn 11 [o0] (.int y0 :: st) w nc ns Q := by
  exact ev_if_eq 24 d_Q_turn_11 (by decide) kt kf
theorem t_Q_turn_14 {d : Nat} {st : List Value} {a0 : Nat} {fs2 : List Value} {c4 : Nat} {fsb : List Value} {w : qk_W} {nc ns : Nat} {Q : Option Value ⊕ Nat → qk_W → Nat → Nat → Prop}  (hw1 : wo w a0 0 fs2) (hf3 : fs2[1]? = some (.ref c4)) (hb : wo w c4 4 fsb) (h8 : (st.map fun v => Value.category v).sum ≤ 8) (k : Ev d m_Ai_latest 0 [some (.ref c4)] [] w nc ns (fun r w1 nc1 ns1 => match r with | .inl v => Ev (d + 1) m_Q_turn 21 [some (.ref a0)] (v.toList ++ st) w1 nc1 ns1 Q | .inr x => Q (.inr x) w1 nc1 ns1)) : Ev (d + 1) m_Q_turn 14 [some (.ref a0)] st w nc ns Q := by
  refine ev_aload_n d_Q_turn_14 rfl rfl ?_
  refine ev_getf d_Q_turn_15 fl_Q_19 hw1.1 hw1.2 hf3 ?_
  exact ev_call (M' := m_Ai_latest) (As := [.ref c4]) (st := st) d_Q_turn_18 i_Ai_latest (fun h => absurd h (by decide +kernel)) cw_Q_71 rfl rfl ⟨hb.1, 4, _, _, hb.2, rfl, rfl⟩ rfl (Nat.le_of_ble_eq_true rfl) h8 k
theorem t_Q_turn_21 {d : Nat} {o0 : Option Value} {y0 : Int32} {w : qk_W} {nc ns : Nat} {Q : Option Value ⊕ Nat → qk_W → Nat → Nat → Prop}   (hq : Q (.inl (some (.int y0))) w nc ns) : Ev d m_Q_turn 21 [o0] [.int y0] w nc ns Q := by
  refine ev_goto 25 d_Q_turn_21 (by decide) ?_
  exact ev_iret d_Q_turn_25 rfl rfl hq
theorem t_Q_turn_24 {d : Nat} {o0 : Option Value} {w : qk_W} {nc ns : Nat} {Q : Option Value ⊕ Nat → qk_W → Nat → Nat → Prop}   (hq : Q (.inl (some (.int (-1)))) w nc ns) : Ev d m_Q_turn 24 [o0] [] w nc ns Q := by
  refine ev_iconst (-1) d_Q_turn_24 (by decide) ?_
  exact ev_iret d_Q_turn_25 rfl rfl hq
/-! Q_ask -/
theorem cw_Q_74 : qk_cw "QuakeLink" m_Ce_sendRequest.1 (.invokevirtual 74) := ⟨(lw_i2 _ (List.mem_of_getElem? (i := 128) rfl)), (lw_i2 _ (List.mem_of_getElem? (i := 129) rfl)), (lw_i2 _ (List.mem_of_getElem? (i := 130) rfl))⟩
theorem d_Q_ask_0 : decode m_Q_ask.2.1 0 = .ok (.aload_n 0, 1) := by decide +kernel
theorem d_Q_ask_1 : decode m_Q_ask.2.1 1 = .ok (.getfield 26, 3) := by decide +kernel
theorem d_Q_ask_4 : decode m_Q_ask.2.1 4 = .ok (.aload_n 0, 1) := by decide +kernel
theorem d_Q_ask_5 : decode m_Q_ask.2.1 5 = .ok (.getfield 19, 3) := by decide +kernel
theorem d_Q_ask_8 : decode m_Q_ask.2.1 8 = .ok (.invokevirtual 74, 3) := by decide +kernel
theorem d_Q_ask_11 : decode m_Q_ask.2.1 11 = .ok (.ifCond .eq 13, 3) := by decide +kernel
theorem d_Q_ask_14 : decode m_Q_ask.2.1 14 = .ok (.aload_n 0, 1) := by decide +kernel
theorem d_Q_ask_15 : decode m_Q_ask.2.1 15 = .ok (.getfield 19, 3) := by decide +kernel
theorem d_Q_ask_18 : decode m_Q_ask.2.1 18 = .ok (.invokevirtual 71, 3) := by decide +kernel
theorem d_Q_ask_21 : decode m_Q_ask.2.1 21 = .ok (.goto 4, 3) := by decide +kernel
theorem d_Q_ask_24 : decode m_Q_ask.2.1 24 = .ok (.iconst (-1), 1) := by decide +kernel
theorem d_Q_ask_25 : decode m_Q_ask.2.1 25 = .ok (.ireturn, 1) := by decide +kernel
theorem t_Q_ask_0 {d : Nat} {st : List Value} {a0 : Nat} {fs2 : List Value} {c4 : Nat} {c8 : Nat} {fsb : List Value} {w : qk_W} {nc ns : Nat} {Q : Option Value ⊕ Nat → qk_W → Nat → Nat → Prop}  (hw1 : wo w a0 0 fs2) (hf3 : fs2[2]? = some (.ref c4)) (hf7 : fs2[1]? = some (.ref c8)) (hb : wo w c4 5 fsb) (h8 : (st.map fun v => Value.category v).sum ≤ 8) (k : Ev d m_Ce_sendRequest 0 [some (.ref c4), some (.ref c8), none, none, none, none] [] w nc ns (fun r w1 nc1 ns1 => match r with | .inl v => Ev (d + 1) m_Q_ask 11 [some (.ref a0)] (v.toList ++ st) w1 nc1 ns1 Q | .inr x => Q (.inr x) w1 nc1 ns1)) : Ev (d + 1) m_Q_ask 0 [some (.ref a0)] st w nc ns Q := by
  refine ev_aload_n d_Q_ask_0 rfl rfl ?_
  refine ev_getf d_Q_ask_1 fl_Q_26 hw1.1 hw1.2 hf3 ?_
  refine ev_aload_n d_Q_ask_4 rfl rfl ?_
  refine ev_getf d_Q_ask_5 fl_Q_19 hw1.1 hw1.2 hf7 ?_
  exact ev_call (M' := m_Ce_sendRequest) (As := [.ref c4, .ref c8]) (st := st) d_Q_ask_8 i_Ce_sendRequest (fun h => absurd h (by decide +kernel)) cw_Q_74 rfl rfl ⟨hb.1, 5, _, _, hb.2, rfl, rfl⟩ rfl (Nat.le_of_ble_eq_true rfl) h8 k
theorem t_Q_ask_11 {d : Nat} {st : List Value} {o0 : Option Value} {y0 : Int32} {w : qk_W} {nc ns : Nat} {Q : Option Value ⊕ Nat → qk_W → Nat → Nat → Prop}   (kt : y0 = 0 → Ev d m_Q_ask 24 [o0] st w nc ns Q) (kf : ¬ (y0 = 0) → Ev d m_Q_ask 14 [o0] st w nc ns Q) : Ev d m_Q_ask 11 [o0] (.int y0 :: st) w nc ns Q := by
  exact ev_if_eq 24 d_Q_ask_11 (by decide) kt kf
theorem t_Q_ask_14 {d : Nat} {st : List Value} {a0 : Nat} {fs2 : List Value} {c4 : Nat} {fsb : List Value} {w : qk_W} {nc ns : Nat} {Q : Option Value ⊕ Nat → qk_W → Nat → Nat → Prop}  (hw1 : wo w a0 0 fs2) (hf3 : fs2[1]? = some (.ref c4)) (hb : wo w c4 4 fsb) (h8 : (st.map fun v => Value.category v).sum ≤ 8) (k : Ev d m_Ai_latest 0 [some (.ref c4)] [] w nc ns (fun r w1 nc1 ns1 => match r with | .inl v => Ev (d + 1) m_Q_ask 21 [some (.ref a0)] (v.toList ++ st) w1 nc1 ns1 Q | .inr x => Q (.inr x) w1 nc1 ns1)) : Ev (d + 1) m_Q_ask 14 [some (.ref a0)] st w nc ns Q := by
  refine ev_aload_n d_Q_ask_14 rfl rfl ?_
  refine ev_getf d_Q_ask_15 fl_Q_19 hw1.1 hw1.2 hf3 ?_
  exact ev_call (M' := m_Ai_latest) (As := [.ref c4]) (st := st) d_Q_ask_18 i_Ai_latest (fun h => absurd h (by decide +kernel)) cw_Q_71 rfl rfl ⟨hb.1, 4, _, _, hb.2, rfl, rfl⟩ rfl (Nat.le_of_ble_eq_true rfl) h8 k
theorem t_Q_ask_21 {d : Nat} {o0 : Option Value} {y0 : Int32} {w : qk_W} {nc ns : Nat} {Q : Option Value ⊕ Nat → qk_W → Nat → Nat → Prop}   (hq : Q (.inl (some (.int y0))) w nc ns) : Ev d m_Q_ask 21 [o0] [.int y0] w nc ns Q := by
  refine ev_goto 25 d_Q_ask_21 (by decide) ?_
  exact ev_iret d_Q_ask_25 rfl rfl hq
theorem t_Q_ask_24 {d : Nat} {o0 : Option Value} {w : qk_W} {nc ns : Nat} {Q : Option Value ⊕ Nat → qk_W → Nat → Nat → Prop}   (hq : Q (.inl (some (.int (-1)))) w nc ns) : Ev d m_Q_ask 24 [o0] [] w nc ns Q := by
  refine ev_iconst (-1) d_Q_ask_24 (by decide) ?_
  exact ev_iret d_Q_ask_25 rfl rfl hq
/-! Q_sample -/
theorem cw_Q_30 : qk_cw "QuakeLink" m_Q_channelOf.1 (.invokevirtual 30) := ⟨(lw_i2 _ (List.mem_of_getElem? (i := 156) rfl)), (lw_i2 _ (List.mem_of_getElem? (i := 158) rfl)), (lw_i0 _ (List.mem_of_getElem? (i := 9) rfl))⟩
theorem cw_Q_34 : qk_cw "QuakeLink" m_Q_refuseBeyondLimit.1 (.invokestatic 34) := ⟨Or.inl (lw_i2 _ (List.mem_of_getElem? (i := 231) rfl)), (lw_i2 _ (List.mem_of_getElem? (i := 232) rfl))⟩
theorem fl_Q_38 : qk_fl "QuakeLink" 38 2 1 := ⟨_, rfl, by decide, rfl, (lw_i1 _ (List.mem_of_getElem? (i := 64) rfl))⟩
theorem cw_Q_44 : qk_cw "QuakeLink" m_St_take.1 (.invokevirtual 44) := ⟨(lw_i3 _ (List.mem_of_getElem? (i := 11) rfl)), (lw_i3 _ (List.mem_of_getElem? (i := 12) rfl)), (lw_i3 _ (List.mem_of_getElem? (i := 13) rfl))⟩
theorem d_Q_sample_0 : decode m_Q_sample.2.1 0 = .ok (.aload_n 0, 1) := by decide +kernel
theorem d_Q_sample_1 : decode m_Q_sample.2.1 1 = .ok (.iload_n 1, 1) := by decide +kernel
theorem d_Q_sample_2 : decode m_Q_sample.2.1 2 = .ok (.invokevirtual 30, 3) := by decide +kernel
theorem d_Q_sample_5 : decode m_Q_sample.2.1 5 = .ok (.astore_n 3, 1) := by decide +kernel
theorem d_Q_sample_6 : decode m_Q_sample.2.1 6 = .ok (.aload_n 3, 1) := by decide +kernel
theorem d_Q_sample_7 : decode m_Q_sample.2.1 7 = .ok (.iconst 1, 1) := by decide +kernel
theorem d_Q_sample_8 : decode m_Q_sample.2.1 8 = .ok (.invokestatic 34, 3) := by decide +kernel
theorem d_Q_sample_11 : decode m_Q_sample.2.1 11 = .ok (.aload_n 3, 1) := by decide +kernel
theorem d_Q_sample_12 : decode m_Q_sample.2.1 12 = .ok (.getfield 38, 3) := by decide +kernel
theorem d_Q_sample_15 : decode m_Q_sample.2.1 15 = .ok (.istore 4, 2) := by decide +kernel
theorem d_Q_sample_17 : decode m_Q_sample.2.1 17 = .ok (.aload_n 0, 1) := by decide +kernel
theorem d_Q_sample_18 : decode m_Q_sample.2.1 18 = .ok (.getfield 10, 3) := by decide +kernel
theorem d_Q_sample_21 : decode m_Q_sample.2.1 21 = .ok (.aload_n 3, 1) := by decide +kernel
theorem d_Q_sample_22 : decode m_Q_sample.2.1 22 = .ok (.iload_n 2, 1) := by decide +kernel
theorem d_Q_sample_23 : decode m_Q_sample.2.1 23 = .ok (.invokevirtual 44, 3) := by decide +kernel
theorem d_Q_sample_26 : decode m_Q_sample.2.1 26 = .ok (.iload 4, 2) := by decide +kernel
theorem d_Q_sample_28 : decode m_Q_sample.2.1 28 = .ok (.ireturn, 1) := by decide +kernel
theorem t_Q_sample_0 {d : Nat} {st : List Value} {a0 : Nat} {x1 : Int32} {o2 : Option Value} {o3 : Option Value} {o4 : Option Value} {fsb : List Value} {w : qk_W} {nc ns : Nat} {Q : Option Value ⊕ Nat → qk_W → Nat → Nat → Prop}  (hb : wo w a0 0 fsb) (h8 : (st.map fun v => Value.category v).sum ≤ 8) (k : Ev d m_Q_channelOf 0 [some (.ref a0), some (.int x1)] [] w nc ns (fun r w1 nc1 ns1 => match r with | .inl v => Ev (d + 1) m_Q_sample 5 [some (.ref a0), some (.int x1), o2, o3, o4] (v.toList ++ st) w1 nc1 ns1 Q | .inr x => Q (.inr x) w1 nc1 ns1)) : Ev (d + 1) m_Q_sample 0 [some (.ref a0), some (.int x1), o2, o3, o4] st w nc ns Q := by
  refine ev_aload_n d_Q_sample_0 rfl rfl ?_
  refine ev_iload_n d_Q_sample_1 rfl ?_
  exact ev_call (M' := m_Q_channelOf) (As := [.ref a0, .int x1]) (st := st) d_Q_sample_2 i_Q_channelOf (fun h => absurd h (by decide +kernel)) cw_Q_30 rfl rfl ⟨hb.1, 0, _, _, hb.2, rfl, rfl⟩ rfl (Nat.le_of_ble_eq_true rfl) h8 k
theorem t_Q_sample_5 {d : Nat} {st : List Value} {o0 : Option Value} {o1 : Option Value} {o2 : Option Value} {o3 : Option Value} {o4 : Option Value} {b0 : Nat} {w : qk_W} {nc ns : Nat} {Q : Option Value ⊕ Nat → qk_W → Nat → Nat → Prop}  (hc1 : qk_c2 [o0, o1, o2, o3, o4] 3 = true) (h8 : (st.map fun v => Value.category v).sum ≤ 8) (k : Ev d m_Q_refuseBeyondLimit 0 [some (.ref b0), some (.int 1)] [] w nc ns (fun r w1 nc1 ns1 => match r with | .inl v => Ev (d + 1) m_Q_sample 11 [o0, o1, o2, some (.ref b0), o4] (v.toList ++ st) w1 nc1 ns1 Q | .inr x => Q (.inr x) w1 nc1 ns1)) : Ev (d + 1) m_Q_sample 5 [o0, o1, o2, o3, o4] (.ref b0 :: st) w nc ns Q := by
  refine ev_astore_n d_Q_sample_5 rfl (by decide) hc1 ?_
  refine ev_aload_n d_Q_sample_6 rfl rfl ?_
  refine ev_iconst 1 d_Q_sample_7 (by decide) ?_
  exact ev_call (M' := m_Q_refuseBeyondLimit) (As := [.ref b0, .int 1]) (st := st) d_Q_sample_8 i_Q_refuseBeyondLimit (fun h => absurd h (by decide +kernel)) cw_Q_34 rfl rfl trivial rfl (Nat.le_of_ble_eq_true rfl) h8 k
theorem t_Q_sample_11 {d : Nat} {st : List Value} {a0 : Nat} {o1 : Option Value} {x2 : Int32} {a3 : Nat} {o4 : Option Value} {fs2 : List Value} {n4 : Int32} {fs6 : List Value} {c8 : Nat} {fsb : List Value} {w : qk_W} {nc ns : Nat} {Q : Option Value ⊕ Nat → qk_W → Nat → Nat → Prop}  (hw1 : wo w a3 2 fs2) (hf3 : fs2[1]? = some (.int n4)) (hw5 : wo w a0 0 fs6) (hf7 : fs6[0]? = some (.ref c8)) (hb : wo w c8 1 fsb) (h8 : (st.map fun v => Value.category v).sum ≤ 8) (k : Ev d m_St_take 0 [some (.ref c8), some (.ref a3), some (.int x2)] [] w nc ns (fun r w1 nc1 ns1 => match r with | .inl v => Ev (d + 1) m_Q_sample 26 [some (.ref a0), o1, some (.int x2), some (.ref a3), some (.int n4)] (v.toList ++ st) w1 nc1 ns1 Q | .inr x => Q (.inr x) w1 nc1 ns1)) : Ev (d + 1) m_Q_sample 11 [some (.ref a0), o1, some (.int x2), some (.ref a3), o4] st w nc ns Q := by
  refine ev_aload_n d_Q_sample_11 rfl rfl ?_
  refine ev_getf d_Q_sample_12 fl_Q_38 hw1.1 hw1.2 hf3 ?_
  refine ev_istore d_Q_sample_15 (by decide) rfl ?_
  refine ev_aload_n d_Q_sample_17 rfl rfl ?_
  refine ev_getf d_Q_sample_18 fl_Q_10 hw5.1 hw5.2 hf7 ?_
  refine ev_aload_n d_Q_sample_21 rfl rfl ?_
  refine ev_iload_n d_Q_sample_22 rfl ?_
  exact ev_call (M' := m_St_take) (As := [.ref c8, .ref a3, .int x2]) (st := st) d_Q_sample_23 i_St_take (fun h => absurd h (by decide +kernel)) cw_Q_44 rfl rfl ⟨hb.1, 1, _, _, hb.2, rfl, rfl⟩ rfl (Nat.le_of_ble_eq_true rfl) h8 k
theorem t_Q_sample_26 {d : Nat} {o0 : Option Value} {o1 : Option Value} {o2 : Option Value} {o3 : Option Value} {x4 : Int32} {w : qk_W} {nc ns : Nat} {Q : Option Value ⊕ Nat → qk_W → Nat → Nat → Prop}   (hq : Q (.inl (some (.int x4))) w nc ns) : Ev d m_Q_sample 26 [o0, o1, o2, o3, some (.int x4)] [] w nc ns Q := by
  refine ev_iload d_Q_sample_26 rfl ?_
  exact ev_iret d_Q_sample_28 rfl rfl hq
/-! Q_channelOf -/
theorem cw_Q_178 : qk_cw "QuakeLink" m_Q_isChannel.1 (.invokestatic 178) := ⟨Or.inl (lw_i2 _ (List.mem_of_getElem? (i := 160) rfl)), (lw_i2 _ (List.mem_of_getElem? (i := 161) rfl))⟩
theorem fl_Q_184 : qk_fl "QuakeLink" 184 1 0 := ⟨_, rfl, by decide, rfl, (lw_i1 _ (List.mem_of_getElem? (i := 86) rfl))⟩
theorem xw_Q_channelOf_8 : qk_xw "QuakeLink" 132 182 136 12 "java/lang/IndexOutOfBoundsException" "no such channel" := ⟨rfl, (lw_i2 _ (List.mem_of_getElem? (i := 164) rfl)), (lw_i2 _ (List.mem_of_getElem? (i := 165) rfl)), (lw_i1 _ (List.mem_of_getElem? (i := 12) rfl)), (lw_i2 _ (List.mem_of_getElem? (i := 205) rfl)), by decide +kernel, by decide +kernel⟩
theorem d_Q_channelOf_0 : decode m_Q_channelOf.2.1 0 = .ok (.iload_n 1, 1) := by decide +kernel
theorem d_Q_channelOf_1 : decode m_Q_channelOf.2.1 1 = .ok (.i2l, 1) := by decide +kernel
theorem d_Q_channelOf_2 : decode m_Q_channelOf.2.1 2 = .ok (.invokestatic 178, 3) := by decide +kernel
theorem d_Q_channelOf_5 : decode m_Q_channelOf.2.1 5 = .ok (.ifCond .ne 13, 3) := by decide +kernel
theorem d_Q_channelOf_8 : decode m_Q_channelOf.2.1 8 = .ok (.new 132, 3) := by decide +kernel
theorem d_Q_channelOf_11 : decode m_Q_channelOf.2.1 11 = .ok (.dup, 1) := by decide +kernel
theorem d_Q_channelOf_12 : decode m_Q_channelOf.2.1 12 = .ok (.ldc 182, 2) := by decide +kernel
theorem d_Q_channelOf_14 : decode m_Q_channelOf.2.1 14 = .ok (.invokespecial 136, 3) := by decide +kernel
theorem d_Q_channelOf_17 : decode m_Q_channelOf.2.1 17 = .ok (.athrow, 1) := by decide +kernel
theorem d_Q_channelOf_18 : decode m_Q_channelOf.2.1 18 = .ok (.aload_n 0, 1) := by decide +kernel
theorem d_Q_channelOf_19 : decode m_Q_channelOf.2.1 19 = .ok (.getfield 10, 3) := by decide +kernel
theorem d_Q_channelOf_22 : decode m_Q_channelOf.2.1 22 = .ok (.getfield 184, 3) := by decide +kernel
theorem d_Q_channelOf_25 : decode m_Q_channelOf.2.1 25 = .ok (.iload_n 1, 1) := by decide +kernel
theorem d_Q_channelOf_26 : decode m_Q_channelOf.2.1 26 = .ok (.aaload, 1) := by decide +kernel
theorem d_Q_channelOf_27 : decode m_Q_channelOf.2.1 27 = .ok (.areturn, 1) := by decide +kernel
theorem t_Q_channelOf_0 {d : Nat} {st : List Value} {o0 : Option Value} {x1 : Int32} {w : qk_W} {nc ns : Nat} {Q : Option Value ⊕ Nat → qk_W → Nat → Nat → Prop}  (h8 : (st.map fun v => Value.category v).sum ≤ 8) (k : Ev d m_Q_isChannel 0 [some (.long (Int32.toInt64 x1)), none] [] w nc ns (fun r w1 nc1 ns1 => match r with | .inl v => Ev (d + 1) m_Q_channelOf 5 [o0, some (.int x1)] (v.toList ++ st) w1 nc1 ns1 Q | .inr x => Q (.inr x) w1 nc1 ns1)) : Ev (d + 1) m_Q_channelOf 0 [o0, some (.int x1)] st w nc ns Q := by
  refine ev_iload_n d_Q_channelOf_0 rfl ?_
  refine ev_i2l d_Q_channelOf_1 ?_
  exact ev_call (M' := m_Q_isChannel) (As := [.long (Int32.toInt64 x1)]) (st := st) d_Q_channelOf_2 i_Q_isChannel (fun h => absurd h (by decide +kernel)) cw_Q_178 rfl rfl trivial rfl (Nat.le_of_ble_eq_true rfl) h8 k
theorem t_Q_channelOf_5 {d : Nat} {st : List Value} {o0 : Option Value} {o1 : Option Value} {y0 : Int32} {w : qk_W} {nc ns : Nat} {Q : Option Value ⊕ Nat → qk_W → Nat → Nat → Prop}   (kt : ¬ y0 = 0 → Ev d m_Q_channelOf 18 [o0, o1] st w nc ns Q) (kf : y0 = 0 → Ev d m_Q_channelOf 8 [o0, o1] st w nc ns Q) : Ev d m_Q_channelOf 5 [o0, o1] (.int y0 :: st) w nc ns Q := by
  exact ev_if_ne 18 d_Q_channelOf_5 (by decide) kt kf
theorem t_Q_channelOf_8 {d : Nat} {o0 : Option Value} {o1 : Option Value} {w : qk_W} {nc ns : Nat} {Q : Option Value ⊕ Nat → qk_W → Nat → Nat → Prop}  (v : Nat) (hv : 16 ≤ v) (hn : w v = none) (hq : Q (.inr v) (qk_set w v (.inr (12, []))) (nc + 1) (ns + 6)) : Ev (d + 6) m_Q_channelOf 8 [o0, o1] [] w nc ns Q := by
  exact ev_throw v d_Q_channelOf_8 d_Q_channelOf_11 d_Q_channelOf_12 d_Q_channelOf_14 d_Q_channelOf_17 xw_Q_channelOf_8 rfl (by omega) hv hn hq
theorem t_Q_channelOf_18 {d : Nat} {a0 : Nat} {x1 : Int32} {fs2 : List Value} {c4 : Nat} {fs6 : List Value} {c8 : Nat} {n10 : Nat} {f11 : Nat → Option Nat} {c14 : Nat} {w : qk_W} {nc ns : Nat} {Q : Option Value ⊕ Nat → qk_W → Nat → Nat → Prop}  (hw1 : wo w a0 0 fs2) (hf3 : fs2[0]? = some (.ref c4)) (hw5 : wo w c4 1 fs6) (hf7 : fs6[0]? = some (.ref c8)) (ha9 : wr "QuakeLink$Channel" w c8 n10 f11) (hi12 : vp_in x1 n10) (hr13 : f11 x1.toNatClampNeg = some c14) (hq : Q (.inl (some (.ref c14))) w nc ns) : Ev d m_Q_channelOf 18 [some (.ref a0), some (.int x1)] [] w nc ns Q := by
  refine ev_aload_n d_Q_channelOf_18 rfl rfl ?_
  refine ev_getf d_Q_channelOf_19 fl_Q_10 hw1.1 hw1.2 hf3 ?_
  refine ev_getf d_Q_channelOf_22 fl_Q_184 hw5.1 hw5.2 hf7 ?_
  refine ev_iload_n d_Q_channelOf_25 rfl ?_
  refine ev_aald d_Q_channelOf_26 ha9.1 (by decide) ha9.2 hi12 ?_
  rw [hr13]
  show Ev _ _ _ _ (Value.ref c14 :: _) _ _ _ _
  exact ev_aret d_Q_channelOf_27 rfl rfl hq
/-! Q_isChannel -/
theorem ll_Q_176 : Cond.constantLong "QuakeLink" 176 (4) ∈ lw_tbl := (lw_i2 _ (List.mem_of_getElem? (i := 163) rfl))
theorem d_Q_isChannel_0 : decode m_Q_isChannel.2.1 0 = .ok (.lload_n 0, 1) := by decide +kernel
theorem d_Q_isChannel_1 : decode m_Q_isChannel.2.1 1 = .ok (.lconst 0, 1) := by decide +kernel
theorem d_Q_isChannel_2 : decode m_Q_isChannel.2.1 2 = .ok (.lcmp, 1) := by decide +kernel
theorem d_Q_isChannel_3 : decode m_Q_isChannel.2.1 3 = .ok (.ifCond .lt 15, 3) := by decide +kernel
theorem d_Q_isChannel_6 : decode m_Q_isChannel.2.1 6 = .ok (.lload_n 0, 1) := by decide +kernel
theorem d_Q_isChannel_7 : decode m_Q_isChannel.2.1 7 = .ok (.ldc2_w 176, 3) := by decide +kernel
theorem d_Q_isChannel_10 : decode m_Q_isChannel.2.1 10 = .ok (.lcmp, 1) := by decide +kernel
theorem d_Q_isChannel_11 : decode m_Q_isChannel.2.1 11 = .ok (.ifCond .ge 7, 3) := by decide +kernel
theorem d_Q_isChannel_14 : decode m_Q_isChannel.2.1 14 = .ok (.iconst 1, 1) := by decide +kernel
theorem d_Q_isChannel_15 : decode m_Q_isChannel.2.1 15 = .ok (.goto 4, 3) := by decide +kernel
theorem d_Q_isChannel_18 : decode m_Q_isChannel.2.1 18 = .ok (.iconst 0, 1) := by decide +kernel
theorem d_Q_isChannel_19 : decode m_Q_isChannel.2.1 19 = .ok (.ireturn, 1) := by decide +kernel
theorem t_Q_isChannel_0 {d : Nat} {st : List Value} {x0 : Int64} {o1 : Option Value} {w : qk_W} {nc ns : Nat} {Q : Option Value ⊕ Nat → qk_W → Nat → Nat → Prop}   (kt : (lg_cmp x0 0) < 0 → Ev d m_Q_isChannel 18 [some (.long x0), o1] st w nc ns Q) (kf : ¬ ((lg_cmp x0 0) < 0) → Ev d m_Q_isChannel 6 [some (.long x0), o1] st w nc ns Q) : Ev d m_Q_isChannel 0 [some (.long x0), o1] st w nc ns Q := by
  refine ev_lload_n d_Q_isChannel_0 rfl ?_
  refine ev_lconst 0 d_Q_isChannel_1 (by decide) ?_
  refine ev_lcmp d_Q_isChannel_2 ?_
  exact ev_if_lt 18 d_Q_isChannel_3 (by decide) kt kf
theorem t_Q_isChannel_6 {d : Nat} {st : List Value} {x0 : Int64} {o1 : Option Value} {w : qk_W} {nc ns : Nat} {Q : Option Value ⊕ Nat → qk_W → Nat → Nat → Prop}   (kt : 0 ≤ (lg_cmp x0 4) → Ev d m_Q_isChannel 18 [some (.long x0), o1] st w nc ns Q) (kf : ¬ (0 ≤ (lg_cmp x0 4)) → Ev d m_Q_isChannel 14 [some (.long x0), o1] st w nc ns Q) : Ev d m_Q_isChannel 6 [some (.long x0), o1] st w nc ns Q := by
  refine ev_lload_n d_Q_isChannel_6 rfl ?_
  refine ev_ldc2 4 d_Q_isChannel_7 ll_Q_176 ?_
  refine ev_lcmp d_Q_isChannel_10 ?_
  exact ev_if_ge 18 d_Q_isChannel_11 (by decide) kt kf
theorem t_Q_isChannel_14 {d : Nat} {o0 : Option Value} {o1 : Option Value} {w : qk_W} {nc ns : Nat} {Q : Option Value ⊕ Nat → qk_W → Nat → Nat → Prop}   (hq : Q (.inl (some (.int 1))) w nc ns) : Ev d m_Q_isChannel 14 [o0, o1] [] w nc ns Q := by
  refine ev_iconst 1 d_Q_isChannel_14 (by decide) ?_
  refine ev_goto 19 d_Q_isChannel_15 (by decide) ?_
  exact ev_iret d_Q_isChannel_19 rfl rfl hq
theorem t_Q_isChannel_18 {d : Nat} {o0 : Option Value} {o1 : Option Value} {w : qk_W} {nc ns : Nat} {Q : Option Value ⊕ Nat → qk_W → Nat → Nat → Prop}   (hq : Q (.inl (some (.int 0))) w nc ns) : Ev d m_Q_isChannel 18 [o0, o1] [] w nc ns Q := by
  refine ev_iconst 0 d_Q_isChannel_18 (by decide) ?_
  exact ev_iret d_Q_isChannel_19 rfl rfl hq
/-! Q_refuseBeyondLimit -/
theorem lc_Q_131 : Cond.constant "QuakeLink" 131 (32768) ∈ lw_tbl := (lw_i2 _ (List.mem_of_getElem? (i := 234) rfl))
theorem xw_Q_refuseBeyondLimit_11 : qk_xw "QuakeLink" 171 173 175 13 "java/lang/IllegalStateException" "more than 32768 samples" := ⟨rfl, (lw_i2 _ (List.mem_of_getElem? (i := 235) rfl)), (lw_i2 _ (List.mem_of_getElem? (i := 236) rfl)), (lw_i1 _ (List.mem_of_getElem? (i := 13) rfl)), (lw_i3 _ (List.mem_of_getElem? (i := 4) rfl)), by decide +kernel, by decide +kernel⟩
theorem d_Q_refuseBeyondLimit_0 : decode m_Q_refuseBeyondLimit.2.1 0 = .ok (.aload_n 0, 1) := by decide +kernel
theorem d_Q_refuseBeyondLimit_1 : decode m_Q_refuseBeyondLimit.2.1 1 = .ok (.getfield 38, 3) := by decide +kernel
theorem d_Q_refuseBeyondLimit_4 : decode m_Q_refuseBeyondLimit.2.1 4 = .ok (.iload_n 1, 1) := by decide +kernel
theorem d_Q_refuseBeyondLimit_5 : decode m_Q_refuseBeyondLimit.2.1 5 = .ok (.iadd, 1) := by decide +kernel
theorem d_Q_refuseBeyondLimit_6 : decode m_Q_refuseBeyondLimit.2.1 6 = .ok (.ldc 131, 2) := by decide +kernel
theorem d_Q_refuseBeyondLimit_8 : decode m_Q_refuseBeyondLimit.2.1 8 = .ok (.if_icmp .le 13, 3) := by decide +kernel
theorem d_Q_refuseBeyondLimit_11 : decode m_Q_refuseBeyondLimit.2.1 11 = .ok (.new 171, 3) := by decide +kernel
theorem d_Q_refuseBeyondLimit_14 : decode m_Q_refuseBeyondLimit.2.1 14 = .ok (.dup, 1) := by decide +kernel
theorem d_Q_refuseBeyondLimit_15 : decode m_Q_refuseBeyondLimit.2.1 15 = .ok (.ldc 173, 2) := by decide +kernel
theorem d_Q_refuseBeyondLimit_17 : decode m_Q_refuseBeyondLimit.2.1 17 = .ok (.invokespecial 175, 3) := by decide +kernel
theorem d_Q_refuseBeyondLimit_20 : decode m_Q_refuseBeyondLimit.2.1 20 = .ok (.athrow, 1) := by decide +kernel
theorem d_Q_refuseBeyondLimit_21 : decode m_Q_refuseBeyondLimit.2.1 21 = .ok (.return_, 1) := by decide +kernel
theorem t_Q_refuseBeyondLimit_0 {d : Nat} {st : List Value} {a0 : Nat} {x1 : Int32} {fs2 : List Value} {n4 : Int32} {w : qk_W} {nc ns : Nat} {Q : Option Value ⊕ Nat → qk_W → Nat → Nat → Prop}  (hw1 : wo w a0 2 fs2) (hf3 : fs2[1]? = some (.int n4)) (kt : (n4 + x1) ≤ (32768 : Int32) → Ev d m_Q_refuseBeyondLimit 21 [some (.ref a0), some (.int x1)] st w nc ns Q) (kf : ¬ ((n4 + x1) ≤ (32768 : Int32)) → Ev d m_Q_refuseBeyondLimit 11 [some (.ref a0), some (.int x1)] st w nc ns Q) : Ev d m_Q_refuseBeyondLimit 0 [some (.ref a0), some (.int x1)] st w nc ns Q := by
  refine ev_aload_n d_Q_refuseBeyondLimit_0 rfl rfl ?_
  refine ev_getf d_Q_refuseBeyondLimit_1 fl_Q_38 hw1.1 hw1.2 hf3 ?_
  refine ev_iload_n d_Q_refuseBeyondLimit_4 rfl ?_
  refine ev_iadd d_Q_refuseBeyondLimit_5 ?_
  refine ev_ldc 32768 d_Q_refuseBeyondLimit_6 lc_Q_131 ?_
  exact ev_icmp_le 21 d_Q_refuseBeyondLimit_8 (by decide) kt kf
theorem t_Q_refuseBeyondLimit_11 {d : Nat} {o0 : Option Value} {o1 : Option Value} {w : qk_W} {nc ns : Nat} {Q : Option Value ⊕ Nat → qk_W → Nat → Nat → Prop}  (v : Nat) (hv : 16 ≤ v) (hn : w v = none) (hq : Q (.inr v) (qk_set w v (.inr (13, []))) (nc + 1) (ns + 6)) : Ev (d + 6) m_Q_refuseBeyondLimit 11 [o0, o1] [] w nc ns Q := by
  exact ev_throw v d_Q_refuseBeyondLimit_11 d_Q_refuseBeyondLimit_14 d_Q_refuseBeyondLimit_15 d_Q_refuseBeyondLimit_17 d_Q_refuseBeyondLimit_20 xw_Q_refuseBeyondLimit_11 rfl (by omega) hv hn hq
theorem t_Q_refuseBeyondLimit_21 {d : Nat} {o0 : Option Value} {o1 : Option Value} {w : qk_W} {nc ns : Nat} {Q : Option Value ⊕ Nat → qk_W → Nat → Nat → Prop}   (hq : Q (.inl none) w nc ns) : Ev d m_Q_refuseBeyondLimit 21 [o0, o1] [] w nc ns Q := by
  exact ev_vret d_Q_refuseBeyondLimit_21 rfl hq
/-! Q_samples -/
theorem xw_Q_samples_19 : qk_xw "QuakeLink" 47 49 51 14 "java/lang/IllegalArgumentException" "n is not 1 .. 2000" := ⟨rfl, (lw_i3 _ (List.mem_of_getElem? (i := 81) rfl)), (lw_i3 _ (List.mem_of_getElem? (i := 82) rfl)), (lw_i1 _ (List.mem_of_getElem? (i := 17) rfl)), (lw_i3 _ (List.mem_of_getElem? (i := 90) rfl)), by decide +kernel, by decide +kernel⟩
theorem d_Q_samples_0 : decode m_Q_samples.2.1 0 = .ok (.aload_n 0, 1) := by decide +kernel
theorem d_Q_samples_1 : decode m_Q_samples.2.1 1 = .ok (.iload_n 1, 1) := by decide +kernel
theorem d_Q_samples_2 : decode m_Q_samples.2.1 2 = .ok (.invokevirtual 30, 3) := by decide +kernel
theorem d_Q_samples_5 : decode m_Q_samples.2.1 5 = .ok (.astore 6, 2) := by decide +kernel
theorem d_Q_samples_7 : decode m_Q_samples.2.1 7 = .ok (.iload_n 2, 1) := by decide +kernel
theorem d_Q_samples_8 : decode m_Q_samples.2.1 8 = .ok (.iconst 1, 1) := by decide +kernel
theorem d_Q_samples_9 : decode m_Q_samples.2.1 9 = .ok (.if_icmp .lt 10, 3) := by decide +kernel
theorem d_Q_samples_12 : decode m_Q_samples.2.1 12 = .ok (.iload_n 2, 1) := by decide +kernel
theorem d_Q_samples_13 : decode m_Q_samples.2.1 13 = .ok (.sipush 2000, 3) := by decide +kernel
theorem d_Q_samples_16 : decode m_Q_samples.2.1 16 = .ok (.if_icmp .le 13, 3) := by decide +kernel
theorem d_Q_samples_19 : decode m_Q_samples.2.1 19 = .ok (.new 47, 3) := by decide +kernel
theorem d_Q_samples_22 : decode m_Q_samples.2.1 22 = .ok (.dup, 1) := by decide +kernel
theorem d_Q_samples_23 : decode m_Q_samples.2.1 23 = .ok (.ldc 49, 2) := by decide +kernel
theorem d_Q_samples_25 : decode m_Q_samples.2.1 25 = .ok (.invokespecial 51, 3) := by decide +kernel
theorem d_Q_samples_28 : decode m_Q_samples.2.1 28 = .ok (.athrow, 1) := by decide +kernel
theorem d_Q_samples_29 : decode m_Q_samples.2.1 29 = .ok (.aload 6, 2) := by decide +kernel
theorem d_Q_samples_31 : decode m_Q_samples.2.1 31 = .ok (.iload_n 2, 1) := by decide +kernel
theorem d_Q_samples_32 : decode m_Q_samples.2.1 32 = .ok (.invokestatic 34, 3) := by decide +kernel
theorem d_Q_samples_35 : decode m_Q_samples.2.1 35 = .ok (.aload 6, 2) := by decide +kernel
theorem d_Q_samples_37 : decode m_Q_samples.2.1 37 = .ok (.getfield 38, 3) := by decide +kernel
theorem d_Q_samples_40 : decode m_Q_samples.2.1 40 = .ok (.istore 7, 2) := by decide +kernel
theorem d_Q_samples_42 : decode m_Q_samples.2.1 42 = .ok (.iload_n 3, 1) := by decide +kernel
theorem d_Q_samples_43 : decode m_Q_samples.2.1 43 = .ok (.istore 8, 2) := by decide +kernel
theorem d_Q_samples_45 : decode m_Q_samples.2.1 45 = .ok (.iload 4, 2) := by decide +kernel
theorem d_Q_samples_47 : decode m_Q_samples.2.1 47 = .ok (.istore 9, 2) := by decide +kernel
theorem d_Q_samples_49 : decode m_Q_samples.2.1 49 = .ok (.iconst 0, 1) := by decide +kernel
theorem d_Q_samples_50 : decode m_Q_samples.2.1 50 = .ok (.istore 10, 2) := by decide +kernel
theorem d_Q_samples_52 : decode m_Q_samples.2.1 52 = .ok (.iload 10, 2) := by decide +kernel
theorem d_Q_samples_54 : decode m_Q_samples.2.1 54 = .ok (.iload_n 2, 1) := by decide +kernel
theorem d_Q_samples_55 : decode m_Q_samples.2.1 55 = .ok (.if_icmp .ge 34, 3) := by decide +kernel
theorem d_Q_samples_58 : decode m_Q_samples.2.1 58 = .ok (.aload_n 0, 1) := by decide +kernel
theorem d_Q_samples_59 : decode m_Q_samples.2.1 59 = .ok (.getfield 10, 3) := by decide +kernel
theorem d_Q_samples_62 : decode m_Q_samples.2.1 62 = .ok (.aload 6, 2) := by decide +kernel
theorem d_Q_samples_64 : decode m_Q_samples.2.1 64 = .ok (.iload 8, 2) := by decide +kernel
theorem d_Q_samples_66 : decode m_Q_samples.2.1 66 = .ok (.invokevirtual 44, 3) := by decide +kernel
theorem d_Q_samples_69 : decode m_Q_samples.2.1 69 = .ok (.iload 8, 2) := by decide +kernel
theorem d_Q_samples_71 : decode m_Q_samples.2.1 71 = .ok (.iload 9, 2) := by decide +kernel
theorem d_Q_samples_73 : decode m_Q_samples.2.1 73 = .ok (.iadd, 1) := by decide +kernel
theorem d_Q_samples_74 : decode m_Q_samples.2.1 74 = .ok (.istore 8, 2) := by decide +kernel
theorem d_Q_samples_76 : decode m_Q_samples.2.1 76 = .ok (.iload 9, 2) := by decide +kernel
theorem d_Q_samples_78 : decode m_Q_samples.2.1 78 = .ok (.iload 5, 2) := by decide +kernel
theorem d_Q_samples_80 : decode m_Q_samples.2.1 80 = .ok (.iadd, 1) := by decide +kernel
theorem d_Q_samples_81 : decode m_Q_samples.2.1 81 = .ok (.istore 9, 2) := by decide +kernel
theorem d_Q_samples_83 : decode m_Q_samples.2.1 83 = .ok (.iinc 10 1, 3) := by decide +kernel
theorem d_Q_samples_86 : decode m_Q_samples.2.1 86 = .ok (.goto (-34), 3) := by decide +kernel
theorem d_Q_samples_89 : decode m_Q_samples.2.1 89 = .ok (.iload 7, 2) := by decide +kernel
theorem d_Q_samples_91 : decode m_Q_samples.2.1 91 = .ok (.ireturn, 1) := by decide +kernel
theorem t_Q_samples_0 {d : Nat} {st : List Value} {a0 : Nat} {x1 : Int32} {o2 : Option Value} {o3 : Option Value} {o4 : Option Value} {o5 : Option Value} {o6 : Option Value} {o7 : Option Value} {o8 : Option Value} {o9 : Option Value} {o10 : Option Value} {fsb : List Value} {w : qk_W} {nc ns : Nat} {Q : Option Value ⊕ Nat → qk_W → Nat → Nat → Prop}  (hb : wo w a0 0 fsb) (h8 : (st.map fun v => Value.category v).sum ≤ 8) (k : Ev d m_Q_channelOf 0 [some (.ref a0), some (.int x1)] [] w nc ns (fun r w1 nc1 ns1 => match r with | .inl v => Ev (d + 1) m_Q_samples 5 [some (.ref a0), some (.int x1), o2, o3, o4, o5, o6, o7, o8, o9, o10] (v.toList ++ st) w1 nc1 ns1 Q | .inr x => Q (.inr x) w1 nc1 ns1)) : Ev (d + 1) m_Q_samples 0 [some (.ref a0), some (.int x1), o2, o3, o4, o5, o6, o7, o8, o9, o10] st w nc ns Q := by
  refine ev_aload_n d_Q_samples_0 rfl rfl ?_
  refine ev_iload_n d_Q_samples_1 rfl ?_
  exact ev_call (M' := m_Q_channelOf) (As := [.ref a0, .int x1]) (st := st) d_Q_samples_2 i_Q_channelOf (fun h => absurd h (by decide +kernel)) cw_Q_30 rfl rfl ⟨hb.1, 0, _, _, hb.2, rfl, rfl⟩ rfl (Nat.le_of_ble_eq_true rfl) h8 k
theorem t_Q_samples_5 {d : Nat} {st : List Value} {o0 : Option Value} {o1 : Option Value} {x2 : Int32} {o3 : Option Value} {o4 : Option Value} {o5 : Option Value} {o6 : Option Value} {o7 : Option Value} {o8 : Option Value} {o9 : Option Value} {o10 : Option Value} {s0 : Value} {w : qk_W} {nc ns : Nat} {Q : Option Value ⊕ Nat → qk_W → Nat → Nat → Prop} (hs0 : qk_isr s0 = true) (hc1 : qk_c2 [o0, o1, some (.int x2), o3, o4, o5, o6, o7, o8, o9, o10] 6 = true) (kt : x2 < (1 : Int32) → Ev d m_Q_samples 19 [o0, o1, some (.int x2), o3, o4, o5, some s0, o7, o8, o9, o10] st w nc ns Q) (kf : ¬ (x2 < (1 : Int32)) → Ev d m_Q_samples 12 [o0, o1, some (.int x2), o3, o4, o5, some s0, o7, o8, o9, o10] st w nc ns Q) : Ev d m_Q_samples 5 [o0, o1, some (.int x2), o3, o4, o5, o6, o7, o8, o9, o10] (s0 :: st) w nc ns Q := by
  refine ev_astore d_Q_samples_5 hs0 (by decide) hc1 ?_
  refine ev_iload_n d_Q_samples_7 rfl ?_
  refine ev_iconst 1 d_Q_samples_8 (by decide) ?_
  exact ev_icmp_lt 19 d_Q_samples_9 (by decide) kt kf
theorem t_Q_samples_12 {d : Nat} {st : List Value} {o0 : Option Value} {o1 : Option Value} {x2 : Int32} {o3 : Option Value} {o4 : Option Value} {o5 : Option Value} {o6 : Option Value} {o7 : Option Value} {o8 : Option Value} {o9 : Option Value} {o10 : Option Value} {w : qk_W} {nc ns : Nat} {Q : Option Value ⊕ Nat → qk_W → Nat → Nat → Prop}   (kt : x2 ≤ (2000 : Int32) → Ev d m_Q_samples 29 [o0, o1, some (.int x2), o3, o4, o5, o6, o7, o8, o9, o10] st w nc ns Q) (kf : ¬ (x2 ≤ (2000 : Int32)) → Ev d m_Q_samples 19 [o0, o1, some (.int x2), o3, o4, o5, o6, o7, o8, o9, o10] st w nc ns Q) : Ev d m_Q_samples 12 [o0, o1, some (.int x2), o3, o4, o5, o6, o7, o8, o9, o10] st w nc ns Q := by
  refine ev_iload_n d_Q_samples_12 rfl ?_
  refine ev_sipush 2000 d_Q_samples_13 (by decide) ?_
  exact ev_icmp_le 29 d_Q_samples_16 (by decide) kt kf
theorem t_Q_samples_19 {d : Nat} {o0 : Option Value} {o1 : Option Value} {o2 : Option Value} {o3 : Option Value} {o4 : Option Value} {o5 : Option Value} {o6 : Option Value} {o7 : Option Value} {o8 : Option Value} {o9 : Option Value} {o10 : Option Value} {w : qk_W} {nc ns : Nat} {Q : Option Value ⊕ Nat → qk_W → Nat → Nat → Prop}  (v : Nat) (hv : 16 ≤ v) (hn : w v = none) (hq : Q (.inr v) (qk_set w v (.inr (14, []))) (nc + 1) (ns + 6)) : Ev (d + 6) m_Q_samples 19 [o0, o1, o2, o3, o4, o5, o6, o7, o8, o9, o10] [] w nc ns Q := by
  exact ev_throw v d_Q_samples_19 d_Q_samples_22 d_Q_samples_23 d_Q_samples_25 d_Q_samples_28 xw_Q_samples_19 rfl (by omega) hv hn hq
theorem t_Q_samples_29 {d : Nat} {st : List Value} {o0 : Option Value} {o1 : Option Value} {x2 : Int32} {o3 : Option Value} {o4 : Option Value} {o5 : Option Value} {a6 : Nat} {o7 : Option Value} {o8 : Option Value} {o9 : Option Value} {o10 : Option Value} {w : qk_W} {nc ns : Nat} {Q : Option Value ⊕ Nat → qk_W → Nat → Nat → Prop}  (h8 : (st.map fun v => Value.category v).sum ≤ 8) (k : Ev d m_Q_refuseBeyondLimit 0 [some (.ref a6), some (.int x2)] [] w nc ns (fun r w1 nc1 ns1 => match r with | .inl v => Ev (d + 1) m_Q_samples 35 [o0, o1, some (.int x2), o3, o4, o5, some (.ref a6), o7, o8, o9, o10] (v.toList ++ st) w1 nc1 ns1 Q | .inr x => Q (.inr x) w1 nc1 ns1)) : Ev (d + 1) m_Q_samples 29 [o0, o1, some (.int x2), o3, o4, o5, some (.ref a6), o7, o8, o9, o10] st w nc ns Q := by
  refine ev_aload d_Q_samples_29 rfl rfl ?_
  refine ev_iload_n d_Q_samples_31 rfl ?_
  exact ev_call (M' := m_Q_refuseBeyondLimit) (As := [.ref a6, .int x2]) (st := st) d_Q_samples_32 i_Q_refuseBeyondLimit (fun h => absurd h (by decide +kernel)) cw_Q_34 rfl rfl trivial rfl (Nat.le_of_ble_eq_true rfl) h8 k
theorem t_Q_samples_35 {d : Nat} {st : List Value} {o0 : Option Value} {o1 : Option Value} {o2 : Option Value} {x3 : Int32} {x4 : Int32} {o5 : Option Value} {a6 : Nat} {o7 : Option Value} {o8 : Option Value} {o9 : Option Value} {o10 : Option Value} {fs2 : List Value} {n4 : Int32} {w : qk_W} {nc ns : Nat} {Q : Option Value ⊕ Nat → qk_W → Nat → Nat → Prop}  (hw1 : wo w a6 2 fs2) (hf3 : fs2[1]? = some (.int n4)) (k : Ev d m_Q_samples 52 [o0, o1, o2, some (.int x3), some (.int x4), o5, some (.ref a6), some (.int n4), some (.int x3), some (.int x4), some (.int 0)] st w nc ns Q) : Ev d m_Q_samples 35 [o0, o1, o2, some (.int x3), some (.int x4), o5, some (.ref a6), o7, o8, o9, o10] st w nc ns Q := by
  refine ev_aload d_Q_samples_35 rfl rfl ?_
  refine ev_getf d_Q_samples_37 fl_Q_38 hw1.1 hw1.2 hf3 ?_
  refine ev_istore d_Q_samples_40 (by decide) rfl ?_
  refine ev_iload_n d_Q_samples_42 rfl ?_
  refine ev_istore d_Q_samples_43 (by decide) rfl ?_
  refine ev_iload d_Q_samples_45 rfl ?_
  refine ev_istore d_Q_samples_47 (by decide) rfl ?_
  refine ev_iconst 0 d_Q_samples_49 (by decide) ?_
  refine ev_istore d_Q_samples_50 (by decide) rfl ?_
  exact k
theorem t_Q_samples_52 {d : Nat} {st : List Value} {o0 : Option Value} {o1 : Option Value} {x2 : Int32} {o3 : Option Value} {o4 : Option Value} {o5 : Option Value} {o6 : Option Value} {o7 : Option Value} {o8 : Option Value} {o9 : Option Value} {x10 : Int32} {w : qk_W} {nc ns : Nat} {Q : Option Value ⊕ Nat → qk_W → Nat → Nat → Prop}   (kt : x2 ≤ x10 → Ev d m_Q_samples 89 [o0, o1, some (.int x2), o3, o4, o5, o6, o7, o8, o9, some (.int x10)] st w nc ns Q) (kf : ¬ (x2 ≤ x10) → Ev d m_Q_samples 58 [o0, o1, some (.int x2), o3, o4, o5, o6, o7, o8, o9, some (.int x10)] st w nc ns Q) : Ev d m_Q_samples 52 [o0, o1, some (.int x2), o3, o4, o5, o6, o7, o8, o9, some (.int x10)] st w nc ns Q := by
  refine ev_iload d_Q_samples_52 rfl ?_
  refine ev_iload_n d_Q_samples_54 rfl ?_
  exact ev_icmp_ge 89 d_Q_samples_55 (by decide) kt kf
theorem t_Q_samples_58 {d : Nat} {st : List Value} {a0 : Nat} {o1 : Option Value} {o2 : Option Value} {o3 : Option Value} {o4 : Option Value} {o5 : Option Value} {a6 : Nat} {o7 : Option Value} {x8 : Int32} {o9 : Option Value} {o10 : Option Value} {fs2 : List Value} {c4 : Nat} {fsb : List Value} {w : qk_W} {nc ns : Nat} {Q : Option Value ⊕ Nat → qk_W → Nat → Nat → Prop}  (hw1 : wo w a0 0 fs2) (hf3 : fs2[0]? = some (.ref c4)) (hb : wo w c4 1 fsb) (h8 : (st.map fun v => Value.category v).sum ≤ 8) (k : Ev d m_St_take 0 [some (.ref c4), some (.ref a6), some (.int x8)] [] w nc ns (fun r w1 nc1 ns1 => match r with | .inl v => Ev (d + 1) m_Q_samples 69 [some (.ref a0), o1, o2, o3, o4, o5, some (.ref a6), o7, some (.int x8), o9, o10] (v.toList ++ st) w1 nc1 ns1 Q | .inr x => Q (.inr x) w1 nc1 ns1)) : Ev (d + 1) m_Q_samples 58 [some (.ref a0), o1, o2, o3, o4, o5, some (.ref a6), o7, some (.int x8), o9, o10] st w nc ns Q := by
  refine ev_aload_n d_Q_samples_58 rfl rfl ?_
  refine ev_getf d_Q_samples_59 fl_Q_10 hw1.1 hw1.2 hf3 ?_
  refine ev_aload d_Q_samples_62 rfl rfl ?_
  refine ev_iload d_Q_samples_64 rfl ?_
  exact ev_call (M' := m_St_take) (As := [.ref c4, .ref a6, .int x8]) (st := st) d_Q_samples_66 i_St_take (fun h => absurd h (by decide +kernel)) cw_Q_44 rfl rfl ⟨hb.1, 1, _, _, hb.2, rfl, rfl⟩ rfl (Nat.le_of_ble_eq_true rfl) h8 k
theorem t_Q_samples_69 {d : Nat} {st : List Value} {o0 : Option Value} {o1 : Option Value} {o2 : Option Value} {o3 : Option Value} {o4 : Option Value} {x5 : Int32} {o6 : Option Value} {o7 : Option Value} {x8 : Int32} {x9 : Int32} {x10 : Int32} {w : qk_W} {nc ns : Nat} {Q : Option Value ⊕ Nat → qk_W → Nat → Nat → Prop}  (hc1 : qk_c2 [o0, o1, o2, o3, o4, some (.int x5), o6, o7, some (.int x8), some (.int x9), some (.int x10)] 8 = true) (k : Ev d m_Q_samples 52 [o0, o1, o2, o3, o4, some (.int x5), o6, o7, some (.int (x8 + x9)), some (.int (x9 + x5)), some (.int (x10 + 1))] st w nc ns Q) : Ev d m_Q_samples 69 [o0, o1, o2, o3, o4, some (.int x5), o6, o7, some (.int x8), some (.int x9), some (.int x10)] st w nc ns Q := by
  refine ev_iload d_Q_samples_69 rfl ?_
  refine ev_iload d_Q_samples_71 rfl ?_
  refine ev_iadd d_Q_samples_73 ?_
  refine ev_istore d_Q_samples_74 (by decide) hc1 ?_
  refine ev_iload d_Q_samples_76 rfl ?_
  refine ev_iload d_Q_samples_78 rfl ?_
  refine ev_iadd d_Q_samples_80 ?_
  refine ev_istore d_Q_samples_81 (by decide) rfl ?_
  refine ev_iinc 1 d_Q_samples_83 (by decide) rfl (by decide) rfl ?_
  refine ev_goto 52 d_Q_samples_86 (by decide) ?_
  exact k
theorem t_Q_samples_89 {d : Nat} {o0 : Option Value} {o1 : Option Value} {o2 : Option Value} {o3 : Option Value} {o4 : Option Value} {o5 : Option Value} {o6 : Option Value} {x7 : Int32} {o8 : Option Value} {o9 : Option Value} {o10 : Option Value} {w : qk_W} {nc ns : Nat} {Q : Option Value ⊕ Nat → qk_W → Nat → Nat → Prop}   (hq : Q (.inl (some (.int x7))) w nc ns) : Ev d m_Q_samples 89 [o0, o1, o2, o3, o4, o5, o6, some (.int x7), o8, o9, o10] [] w nc ns Q := by
  refine ev_iload d_Q_samples_89 rfl ?_
  exact ev_iret d_Q_samples_91 rfl rfl hq
/-! Q_quality -/
theorem fl_Q_56 : qk_fl "QuakeLink" 56 1 1 := ⟨_, rfl, by decide, rfl, (lw_i1 _ (List.mem_of_getElem? (i := 88) rfl))⟩
theorem xw_Q_quality_10 : qk_xw "QuakeLink" 47 54 51 14 "java/lang/IllegalArgumentException" "the quality is not 0 .. 100" := ⟨rfl, (lw_i3 _ (List.mem_of_getElem? (i := 81) rfl)), (lw_i3 _ (List.mem_of_getElem? (i := 82) rfl)), (lw_i1 _ (List.mem_of_getElem? (i := 17) rfl)), (lw_i3 _ (List.mem_of_getElem? (i := 104) rfl)), by decide +kernel, by decide +kernel⟩
theorem d_Q_quality_0 : decode m_Q_quality.2.1 0 = .ok (.iload_n 1, 1) := by decide +kernel
theorem d_Q_quality_1 : decode m_Q_quality.2.1 1 = .ok (.ifCond .lt 9, 3) := by decide +kernel
theorem d_Q_quality_4 : decode m_Q_quality.2.1 4 = .ok (.iload_n 1, 1) := by decide +kernel
theorem d_Q_quality_5 : decode m_Q_quality.2.1 5 = .ok (.bipush 100, 2) := by decide +kernel
theorem d_Q_quality_7 : decode m_Q_quality.2.1 7 = .ok (.if_icmp .le 13, 3) := by decide +kernel
theorem d_Q_quality_10 : decode m_Q_quality.2.1 10 = .ok (.new 47, 3) := by decide +kernel
theorem d_Q_quality_13 : decode m_Q_quality.2.1 13 = .ok (.dup, 1) := by decide +kernel
theorem d_Q_quality_14 : decode m_Q_quality.2.1 14 = .ok (.ldc 54, 2) := by decide +kernel
theorem d_Q_quality_16 : decode m_Q_quality.2.1 16 = .ok (.invokespecial 51, 3) := by decide +kernel
theorem d_Q_quality_19 : decode m_Q_quality.2.1 19 = .ok (.athrow, 1) := by decide +kernel
theorem d_Q_quality_20 : decode m_Q_quality.2.1 20 = .ok (.aload_n 0, 1) := by decide +kernel
theorem d_Q_quality_21 : decode m_Q_quality.2.1 21 = .ok (.getfield 10, 3) := by decide +kernel
theorem d_Q_quality_24 : decode m_Q_quality.2.1 24 = .ok (.iload_n 1, 1) := by decide +kernel
theorem d_Q_quality_25 : decode m_Q_quality.2.1 25 = .ok (.putfield 56, 3) := by decide +kernel
theorem d_Q_quality_28 : decode m_Q_quality.2.1 28 = .ok (.return_, 1) := by decide +kernel
theorem t_Q_quality_0 {d : Nat} {st : List Value} {o0 : Option Value} {x1 : Int32} {w : qk_W} {nc ns : Nat} {Q : Option Value ⊕ Nat → qk_W → Nat → Nat → Prop}   (kt : x1 < 0 → Ev d m_Q_quality 10 [o0, some (.int x1)] st w nc ns Q) (kf : ¬ (x1 < 0) → Ev d m_Q_quality 4 [o0, some (.int x1)] st w nc ns Q) : Ev d m_Q_quality 0 [o0, some (.int x1)] st w nc ns Q := by
  refine ev_iload_n d_Q_quality_0 rfl ?_
  exact ev_if_lt 10 d_Q_quality_1 (by decide) kt kf
theorem t_Q_quality_4 {d : Nat} {st : List Value} {o0 : Option Value} {x1 : Int32} {w : qk_W} {nc ns : Nat} {Q : Option Value ⊕ Nat → qk_W → Nat → Nat → Prop}   (kt : x1 ≤ (100 : Int32) → Ev d m_Q_quality 20 [o0, some (.int x1)] st w nc ns Q) (kf : ¬ (x1 ≤ (100 : Int32)) → Ev d m_Q_quality 10 [o0, some (.int x1)] st w nc ns Q) : Ev d m_Q_quality 4 [o0, some (.int x1)] st w nc ns Q := by
  refine ev_iload_n d_Q_quality_4 rfl ?_
  refine ev_bipush 100 d_Q_quality_5 (by decide) ?_
  exact ev_icmp_le 20 d_Q_quality_7 (by decide) kt kf
theorem t_Q_quality_10 {d : Nat} {o0 : Option Value} {o1 : Option Value} {w : qk_W} {nc ns : Nat} {Q : Option Value ⊕ Nat → qk_W → Nat → Nat → Prop}  (v : Nat) (hv : 16 ≤ v) (hn : w v = none) (hq : Q (.inr v) (qk_set w v (.inr (14, []))) (nc + 1) (ns + 6)) : Ev (d + 6) m_Q_quality 10 [o0, o1] [] w nc ns Q := by
  exact ev_throw v d_Q_quality_10 d_Q_quality_13 d_Q_quality_14 d_Q_quality_16 d_Q_quality_19 xw_Q_quality_10 rfl (by omega) hv hn hq
theorem t_Q_quality_20 {d : Nat} {st : List Value} {a0 : Nat} {x1 : Int32} {fs2 : List Value} {c4 : Nat} {fs6 : List Value} {w : qk_W} {nc ns : Nat} {Q : Option Value ⊕ Nat → qk_W → Nat → Nat → Prop}  (hw1 : wo w a0 0 fs2) (hf3 : fs2[0]? = some (.ref c4)) (hw5 : wo w c4 1 fs6) (hk : 1 < fs6.length) (k : Ev d m_Q_quality 28 [some (.ref a0), some (.int x1)] st (qk_set w c4 (.inr (1, fs6.set 1 (.int x1)))) nc ns Q) : Ev d m_Q_quality 20 [some (.ref a0), some (.int x1)] st w nc ns Q := by
  refine ev_aload_n d_Q_quality_20 rfl rfl ?_
  refine ev_getf d_Q_quality_21 fl_Q_10 hw1.1 hw1.2 hf3 ?_
  refine ev_iload_n d_Q_quality_24 rfl ?_
  exact ev_putf d_Q_quality_25 fl_Q_56 rfl hw5.1 hw5.2 hk (qk_fitI _) k
theorem t_Q_quality_28 {d : Nat} {o0 : Option Value} {o1 : Option Value} {w : qk_W} {nc ns : Nat} {Q : Option Value ⊕ Nat → qk_W → Nat → Nat → Prop}   (hq : Q (.inl none) w nc ns) : Ev d m_Q_quality 28 [o0, o1] [] w nc ns Q := by
  exact ev_vret d_Q_quality_28 rfl hq
/-! Q_flush -/
theorem cw_Q_59 : qk_cw "QuakeLink" m_Ch_inOpen.1 (.invokevirtual 59) := ⟨(lw_i3 _ (List.mem_of_getElem? (i := 112) rfl)), (lw_i3 _ (List.mem_of_getElem? (i := 20) rfl)), (lw_i3 _ (List.mem_of_getElem? (i := 21) rfl))⟩
theorem cw_Q_63 : qk_cw "QuakeLink" m_St_close.1 (.invokevirtual 63) := ⟨(lw_i3 _ (List.mem_of_getElem? (i := 113) rfl)), (lw_i3 _ (List.mem_of_getElem? (i := 40) rfl)), (lw_i3 _ (List.mem_of_getElem? (i := 41) rfl))⟩
theorem d_Q_flush_0 : decode m_Q_flush.2.1 0 = .ok (.aload_n 0, 1) := by decide +kernel
theorem d_Q_flush_1 : decode m_Q_flush.2.1 1 = .ok (.iload_n 1, 1) := by decide +kernel
theorem d_Q_flush_2 : decode m_Q_flush.2.1 2 = .ok (.invokevirtual 30, 3) := by decide +kernel
theorem d_Q_flush_5 : decode m_Q_flush.2.1 5 = .ok (.astore_n 2, 1) := by decide +kernel
theorem d_Q_flush_6 : decode m_Q_flush.2.1 6 = .ok (.aload_n 2, 1) := by decide +kernel
theorem d_Q_flush_7 : decode m_Q_flush.2.1 7 = .ok (.invokevirtual 59, 3) := by decide +kernel
theorem d_Q_flush_10 : decode m_Q_flush.2.1 10 = .ok (.istore_n 3, 1) := by decide +kernel
theorem d_Q_flush_11 : decode m_Q_flush.2.1 11 = .ok (.iload_n 3, 1) := by decide +kernel
theorem d_Q_flush_12 : decode m_Q_flush.2.1 12 = .ok (.ifCond .le 11, 3) := by decide +kernel
theorem d_Q_flush_15 : decode m_Q_flush.2.1 15 = .ok (.aload_n 0, 1) := by decide +kernel
theorem d_Q_flush_16 : decode m_Q_flush.2.1 16 = .ok (.getfield 10, 3) := by decide +kernel
theorem d_Q_flush_19 : decode m_Q_flush.2.1 19 = .ok (.aload_n 2, 1) := by decide +kernel
theorem d_Q_flush_20 : decode m_Q_flush.2.1 20 = .ok (.invokevirtual 63, 3) := by decide +kernel
theorem d_Q_flush_23 : decode m_Q_flush.2.1 23 = .ok (.iload_n 3, 1) := by decide +kernel
theorem d_Q_flush_24 : decode m_Q_flush.2.1 24 = .ok (.ireturn, 1) := by decide +kernel
theorem t_Q_flush_0 {d : Nat} {st : List Value} {a0 : Nat} {x1 : Int32} {o2 : Option Value} {o3 : Option Value} {fsb : List Value} {w : qk_W} {nc ns : Nat} {Q : Option Value ⊕ Nat → qk_W → Nat → Nat → Prop}  (hb : wo w a0 0 fsb) (h8 : (st.map fun v => Value.category v).sum ≤ 8) (k : Ev d m_Q_channelOf 0 [some (.ref a0), some (.int x1)] [] w nc ns (fun r w1 nc1 ns1 => match r with | .inl v => Ev (d + 1) m_Q_flush 5 [some (.ref a0), some (.int x1), o2, o3] (v.toList ++ st) w1 nc1 ns1 Q | .inr x => Q (.inr x) w1 nc1 ns1)) : Ev (d + 1) m_Q_flush 0 [some (.ref a0), some (.int x1), o2, o3] st w nc ns Q := by
  refine ev_aload_n d_Q_flush_0 rfl rfl ?_
  refine ev_iload_n d_Q_flush_1 rfl ?_
  exact ev_call (M' := m_Q_channelOf) (As := [.ref a0, .int x1]) (st := st) d_Q_flush_2 i_Q_channelOf (fun h => absurd h (by decide +kernel)) cw_Q_30 rfl rfl ⟨hb.1, 0, _, _, hb.2, rfl, rfl⟩ rfl (Nat.le_of_ble_eq_true rfl) h8 k
theorem t_Q_flush_5 {d : Nat} {st : List Value} {o0 : Option Value} {o1 : Option Value} {o2 : Option Value} {o3 : Option Value} {b0 : Nat} {fsb : List Value} {w : qk_W} {nc ns : Nat} {Q : Option Value ⊕ Nat → qk_W → Nat → Nat → Prop}  (hc1 : qk_c2 [o0, o1, o2, o3] 2 = true) (hb : wo w b0 2 fsb) (h8 : (st.map fun v => Value.category v).sum ≤ 8) (k : Ev d m_Ch_inOpen 0 [some (.ref b0)] [] w nc ns (fun r w1 nc1 ns1 => match r with | .inl v => Ev (d + 1) m_Q_flush 10 [o0, o1, some (.ref b0), o3] (v.toList ++ st) w1 nc1 ns1 Q | .inr x => Q (.inr x) w1 nc1 ns1)) : Ev (d + 1) m_Q_flush 5 [o0, o1, o2, o3] (.ref b0 :: st) w nc ns Q := by
  refine ev_astore_n d_Q_flush_5 rfl (by decide) hc1 ?_
  refine ev_aload_n d_Q_flush_6 rfl rfl ?_
  exact ev_call (M' := m_Ch_inOpen) (As := [.ref b0]) (st := st) d_Q_flush_7 i_Ch_inOpen (fun h => absurd h (by decide +kernel)) cw_Q_59 rfl rfl ⟨hb.1, 2, _, _, hb.2, rfl, rfl⟩ rfl (Nat.le_of_ble_eq_true rfl) h8 k
theorem t_Q_flush_10 {d : Nat} {st : List Value} {o0 : Option Value} {o1 : Option Value} {o2 : Option Value} {o3 : Option Value} {y0 : Int32} {w : qk_W} {nc ns : Nat} {Q : Option Value ⊕ Nat → qk_W → Nat → Nat → Prop}  (hc1 : qk_c2 [o0, o1, o2, o3] 3 = true) (kt : y0 ≤ 0 → Ev d m_Q_flush 23 [o0, o1, o2, some (.int y0)] st w nc ns Q) (kf : ¬ (y0 ≤ 0) → Ev d m_Q_flush 15 [o0, o1, o2, some (.int y0)] st w nc ns Q) : Ev d m_Q_flush 10 [o0, o1, o2, o3] (.int y0 :: st) w nc ns Q := by
  refine ev_istore_n d_Q_flush_10 (by decide) hc1 ?_
  refine ev_iload_n d_Q_flush_11 rfl ?_
  exact ev_if_le 23 d_Q_flush_12 (by decide) kt kf
theorem t_Q_flush_15 {d : Nat} {st : List Value} {a0 : Nat} {o1 : Option Value} {a2 : Nat} {o3 : Option Value} {fs2 : List Value} {c4 : Nat} {fsb : List Value} {w : qk_W} {nc ns : Nat} {Q : Option Value ⊕ Nat → qk_W → Nat → Nat → Prop}  (hw1 : wo w a0 0 fs2) (hf3 : fs2[0]? = some (.ref c4)) (hb : wo w c4 1 fsb) (h8 : (st.map fun v => Value.category v).sum ≤ 8) (k : Ev d m_St_close 0 [some (.ref c4), some (.ref a2)] [] w nc ns (fun r w1 nc1 ns1 => match r with | .inl v => Ev (d + 1) m_Q_flush 23 [some (.ref a0), o1, some (.ref a2), o3] (v.toList ++ st) w1 nc1 ns1 Q | .inr x => Q (.inr x) w1 nc1 ns1)) : Ev (d + 1) m_Q_flush 15 [some (.ref a0), o1, some (.ref a2), o3] st w nc ns Q := by
  refine ev_aload_n d_Q_flush_15 rfl rfl ?_
  refine ev_getf d_Q_flush_16 fl_Q_10 hw1.1 hw1.2 hf3 ?_
  refine ev_aload_n d_Q_flush_19 rfl rfl ?_
  exact ev_call (M' := m_St_close) (As := [.ref c4, .ref a2]) (st := st) d_Q_flush_20 i_St_close (fun h => absurd h (by decide +kernel)) cw_Q_63 rfl rfl ⟨hb.1, 1, _, _, hb.2, rfl, rfl⟩ rfl (Nat.le_of_ble_eq_true rfl) h8 k
theorem t_Q_flush_23 {d : Nat} {o0 : Option Value} {o1 : Option Value} {o2 : Option Value} {x3 : Int32} {w : qk_W} {nc ns : Nat} {Q : Option Value ⊕ Nat → qk_W → Nat → Nat → Prop}   (hq : Q (.inl (some (.int x3))) w nc ns) : Ev d m_Q_flush 23 [o0, o1, o2, some (.int x3)] [] w nc ns Q := by
  refine ev_iload_n d_Q_flush_23 rfl ?_
  exact ev_iret d_Q_flush_24 rfl rfl hq
/-! Q_deliver -/
theorem cw_Q_77 : qk_cw "QuakeLink" m_Q_messageOf.1 (.invokevirtual 77) := ⟨(lw_i3 _ (List.mem_of_getElem? (i := 121) rfl)), (lw_i3 _ (List.mem_of_getElem? (i := 123) rfl)), (lw_i0 _ (List.mem_of_getElem? (i := 14) rfl))⟩
theorem cw_Q_81 : qk_cw "QuakeLink" m_Ce_receive.1 (.invokevirtual 81) := ⟨(lw_i3 _ (List.mem_of_getElem? (i := 130) rfl)), (lw_i3 _ (List.mem_of_getElem? (i := 131) rfl)), (lw_i3 _ (List.mem_of_getElem? (i := 132) rfl))⟩
theorem d_Q_deliver_0 : decode m_Q_deliver.2.1 0 = .ok (.aload_n 0, 1) := by decide +kernel
theorem d_Q_deliver_1 : decode m_Q_deliver.2.1 1 = .ok (.getfield 26, 3) := by decide +kernel
theorem d_Q_deliver_4 : decode m_Q_deliver.2.1 4 = .ok (.aload_n 0, 1) := by decide +kernel
theorem d_Q_deliver_5 : decode m_Q_deliver.2.1 5 = .ok (.iload_n 1, 1) := by decide +kernel
theorem d_Q_deliver_6 : decode m_Q_deliver.2.1 6 = .ok (.invokevirtual 77, 3) := by decide +kernel
theorem d_Q_deliver_9 : decode m_Q_deliver.2.1 9 = .ok (.invokevirtual 81, 3) := by decide +kernel
theorem d_Q_deliver_12 : decode m_Q_deliver.2.1 12 = .ok (.ireturn, 1) := by decide +kernel
theorem t_Q_deliver_0 {d : Nat} {st : List Value} {a0 : Nat} {x1 : Int32} {fs2 : List Value} {c4 : Nat} {w : qk_W} {nc ns : Nat} {Q : Option Value ⊕ Nat → qk_W → Nat → Nat → Prop}  (hw1 : wo w a0 0 fs2) (hf3 : fs2[2]? = some (.ref c4)) (h8 : ((.ref c4 :: st).map fun v => Value.category v).sum ≤ 8) (k : Ev d m_Q_messageOf 0 [some (.ref a0), some (.int x1), none] [] w nc ns (fun r w1 nc1 ns1 => match r with | .inl v => Ev (d + 1) m_Q_deliver 9 [some (.ref a0), some (.int x1)] (v.toList ++ (.ref c4 :: st)) w1 nc1 ns1 Q | .inr x => Q (.inr x) w1 nc1 ns1)) : Ev (d + 1) m_Q_deliver 0 [some (.ref a0), some (.int x1)] st w nc ns Q := by
  refine ev_aload_n d_Q_deliver_0 rfl rfl ?_
  refine ev_getf d_Q_deliver_1 fl_Q_26 hw1.1 hw1.2 hf3 ?_
  refine ev_aload_n d_Q_deliver_4 rfl rfl ?_
  refine ev_iload_n d_Q_deliver_5 rfl ?_
  exact ev_call (M' := m_Q_messageOf) (As := [.ref a0, .int x1]) (st := (.ref c4 :: st)) d_Q_deliver_6 i_Q_messageOf (fun h => absurd h (by decide +kernel)) cw_Q_77 rfl rfl ⟨hw1.1, 0, _, _, hw1.2, rfl, rfl⟩ rfl (Nat.le_of_ble_eq_true rfl) h8 k
theorem t_Q_deliver_9 {d : Nat} {st : List Value} {o0 : Option Value} {o1 : Option Value} {b0 : Nat} {b1 : Nat} {fsb : List Value} {w : qk_W} {nc ns : Nat} {Q : Option Value ⊕ Nat → qk_W → Nat → Nat → Prop}  (hb : wo w b1 5 fsb) (h8 : (st.map fun v => Value.category v).sum ≤ 8) (k : Ev d m_Ce_receive 0 [some (.ref b1), some (.ref b0), none] [] w nc ns (fun r w1 nc1 ns1 => match r with | .inl v => Ev (d + 1) m_Q_deliver 12 [o0, o1] (v.toList ++ st) w1 nc1 ns1 Q | .inr x => Q (.inr x) w1 nc1 ns1)) : Ev (d + 1) m_Q_deliver 9 [o0, o1] (.ref b0 :: .ref b1 :: st) w nc ns Q := by
  exact ev_call (M' := m_Ce_receive) (As := [.ref b1, .ref b0]) (st := st) d_Q_deliver_9 i_Ce_receive (fun h => absurd h (by decide +kernel)) cw_Q_81 rfl rfl ⟨hb.1, 5, _, _, hb.2, rfl, rfl⟩ rfl (Nat.le_of_ble_eq_true rfl) h8 k
theorem t_Q_deliver_12 {d : Nat} {o0 : Option Value} {o1 : Option Value} {y0 : Int32} {w : qk_W} {nc ns : Nat} {Q : Option Value ⊕ Nat → qk_W → Nat → Nat → Prop}   (hq : Q (.inl (some (.int y0))) w nc ns) : Ev d m_Q_deliver 12 [o0, o1] [.int y0] w nc ns Q := by
  exact ev_iret d_Q_deliver_12 rfl rfl hq
/-! Q_messageOf -/
theorem cw_Q_192 : qk_cw "QuakeLink" m_Ai_find.1 (.invokevirtual 192) := ⟨(lw_i3 _ (List.mem_of_getElem? (i := 125) rfl)), (lw_i3 _ (List.mem_of_getElem? (i := 126) rfl)), (lw_i3 _ (List.mem_of_getElem? (i := 127) rfl))⟩
theorem xw_Q_messageOf_13 : qk_xw "QuakeLink" 132 195 136 12 "java/lang/IndexOutOfBoundsException" "no such slot" := ⟨rfl, (lw_i2 _ (List.mem_of_getElem? (i := 164) rfl)), (lw_i2 _ (List.mem_of_getElem? (i := 165) rfl)), (lw_i1 _ (List.mem_of_getElem? (i := 12) rfl)), (lw_i3 _ (List.mem_of_getElem? (i := 129) rfl)), by decide +kernel, by decide +kernel⟩
theorem d_Q_messageOf_0 : decode m_Q_messageOf.2.1 0 = .ok (.aload_n 0, 1) := by decide +kernel
theorem d_Q_messageOf_1 : decode m_Q_messageOf.2.1 1 = .ok (.getfield 19, 3) := by decide +kernel
theorem d_Q_messageOf_4 : decode m_Q_messageOf.2.1 4 = .ok (.iload_n 1, 1) := by decide +kernel
theorem d_Q_messageOf_5 : decode m_Q_messageOf.2.1 5 = .ok (.invokevirtual 192, 3) := by decide +kernel
theorem d_Q_messageOf_8 : decode m_Q_messageOf.2.1 8 = .ok (.astore_n 2, 1) := by decide +kernel
theorem d_Q_messageOf_9 : decode m_Q_messageOf.2.1 9 = .ok (.aload_n 2, 1) := by decide +kernel
theorem d_Q_messageOf_10 : decode m_Q_messageOf.2.1 10 = .ok (.ifnonnull 13, 3) := by decide +kernel
theorem d_Q_messageOf_13 : decode m_Q_messageOf.2.1 13 = .ok (.new 132, 3) := by decide +kernel
theorem d_Q_messageOf_16 : decode m_Q_messageOf.2.1 16 = .ok (.dup, 1) := by decide +kernel
theorem d_Q_messageOf_17 : decode m_Q_messageOf.2.1 17 = .ok (.ldc 195, 2) := by decide +kernel
theorem d_Q_messageOf_19 : decode m_Q_messageOf.2.1 19 = .ok (.invokespecial 136, 3) := by decide +kernel
theorem d_Q_messageOf_22 : decode m_Q_messageOf.2.1 22 = .ok (.athrow, 1) := by decide +kernel
theorem d_Q_messageOf_23 : decode m_Q_messageOf.2.1 23 = .ok (.aload_n 2, 1) := by decide +kernel
theorem d_Q_messageOf_24 : decode m_Q_messageOf.2.1 24 = .ok (.areturn, 1) := by decide +kernel
theorem t_Q_messageOf_0 {d : Nat} {st : List Value} {a0 : Nat} {x1 : Int32} {o2 : Option Value} {fs2 : List Value} {c4 : Nat} {fsb : List Value} {w : qk_W} {nc ns : Nat} {Q : Option Value ⊕ Nat → qk_W → Nat → Nat → Prop}  (hw1 : wo w a0 0 fs2) (hf3 : fs2[1]? = some (.ref c4)) (hb : wo w c4 4 fsb) (h8 : (st.map fun v => Value.category v).sum ≤ 8) (k : Ev d m_Ai_find 0 [some (.ref c4), some (.int x1), none] [] w nc ns (fun r w1 nc1 ns1 => match r with | .inl v => Ev (d + 1) m_Q_messageOf 8 [some (.ref a0), some (.int x1), o2] (v.toList ++ st) w1 nc1 ns1 Q | .inr x => Q (.inr x) w1 nc1 ns1)) : Ev (d + 1) m_Q_messageOf 0 [some (.ref a0), some (.int x1), o2] st w nc ns Q := by
  refine ev_aload_n d_Q_messageOf_0 rfl rfl ?_
  refine ev_getf d_Q_messageOf_1 fl_Q_19 hw1.1 hw1.2 hf3 ?_
  refine ev_iload_n d_Q_messageOf_4 rfl ?_
  exact ev_call (M' := m_Ai_find) (As := [.ref c4, .int x1]) (st := st) d_Q_messageOf_5 i_Ai_find (fun h => absurd h (by decide +kernel)) cw_Q_192 rfl rfl ⟨hb.1, 4, _, _, hb.2, rfl, rfl⟩ rfl (Nat.le_of_ble_eq_true rfl) h8 k
theorem t_Q_messageOf_8 {d : Nat} {st : List Value} {o0 : Option Value} {o1 : Option Value} {o2 : Option Value} {b0 : Nat} {w : qk_W} {nc ns : Nat} {Q : Option Value ⊕ Nat → qk_W → Nat → Nat → Prop}  (hc1 : qk_c2 [o0, o1, o2] 2 = true) (k : Ev d m_Q_messageOf 23 [o0, o1, some (.ref b0)] st w nc ns Q) : Ev d m_Q_messageOf 8 [o0, o1, o2] (.ref b0 :: st) w nc ns Q := by
  refine ev_astore_n d_Q_messageOf_8 rfl (by decide) hc1 ?_
  refine ev_aload_n d_Q_messageOf_9 rfl rfl ?_
  refine ev_ifnonnull_r 23 d_Q_messageOf_10 (by decide) ?_
  exact k
theorem t_Q_messageOf_8n {d : Nat} {st : List Value} {o0 : Option Value} {o1 : Option Value} {o2 : Option Value}  {w : qk_W} {nc ns : Nat} {Q : Option Value ⊕ Nat → qk_W → Nat → Nat → Prop}  (hc1 : qk_c2 [o0, o1, o2] 2 = true) (k : Ev d m_Q_messageOf 13 [o0, o1, some (.null)] st w nc ns Q) : Ev d m_Q_messageOf 8 [o0, o1, o2] (.null :: st) w nc ns Q := by
  refine ev_astore_n d_Q_messageOf_8 rfl (by decide) hc1 ?_
  refine ev_aload_n d_Q_messageOf_9 rfl rfl ?_
  refine ev_ifnonnull_n d_Q_messageOf_10 ?_
  exact k
theorem t_Q_messageOf_13 {d : Nat} {o0 : Option Value} {o1 : Option Value} {o2 : Option Value} {w : qk_W} {nc ns : Nat} {Q : Option Value ⊕ Nat → qk_W → Nat → Nat → Prop}  (v : Nat) (hv : 16 ≤ v) (hn : w v = none) (hq : Q (.inr v) (qk_set w v (.inr (12, []))) (nc + 1) (ns + 6)) : Ev (d + 6) m_Q_messageOf 13 [o0, o1, o2] [] w nc ns Q := by
  exact ev_throw v d_Q_messageOf_13 d_Q_messageOf_16 d_Q_messageOf_17 d_Q_messageOf_19 d_Q_messageOf_22 xw_Q_messageOf_13 rfl (by omega) hv hn hq
theorem t_Q_messageOf_23 {d : Nat} {o0 : Option Value} {o1 : Option Value} {v2 : Value} {w : qk_W} {nc ns : Nat} {Q : Option Value ⊕ Nat → qk_W → Nat → Nat → Prop} (hv2 : qk_isr v2 = true)  (hq : Q (.inl (some (v2))) w nc ns) : Ev d m_Q_messageOf 23 [o0, o1, some v2] [] w nc ns Q := by
  refine ev_aload_n d_Q_messageOf_23 rfl hv2 ?_
  exact ev_aret d_Q_messageOf_24 rfl hv2 hq
/-! Q_hear -/
theorem cw_Q_85 : qk_cw "QuakeLink" m_St_receive.1 (.invokevirtual 85) := ⟨(lw_i4 _ (List.mem_of_getElem? (i := 29) rfl)), (lw_i4 _ (List.mem_of_getElem? (i := 30) rfl)), (lw_i4 _ (List.mem_of_getElem? (i := 31) rfl))⟩
theorem d_Q_hear_0 : decode m_Q_hear.2.1 0 = .ok (.aload_n 0, 1) := by decide +kernel
theorem d_Q_hear_1 : decode m_Q_hear.2.1 1 = .ok (.getfield 10, 3) := by decide +kernel
theorem d_Q_hear_4 : decode m_Q_hear.2.1 4 = .ok (.aload_n 0, 1) := by decide +kernel
theorem d_Q_hear_5 : decode m_Q_hear.2.1 5 = .ok (.iload_n 1, 1) := by decide +kernel
theorem d_Q_hear_6 : decode m_Q_hear.2.1 6 = .ok (.invokevirtual 77, 3) := by decide +kernel
theorem d_Q_hear_9 : decode m_Q_hear.2.1 9 = .ok (.invokevirtual 85, 3) := by decide +kernel
theorem d_Q_hear_12 : decode m_Q_hear.2.1 12 = .ok (.ireturn, 1) := by decide +kernel
theorem t_Q_hear_0 {d : Nat} {st : List Value} {a0 : Nat} {x1 : Int32} {fs2 : List Value} {c4 : Nat} {w : qk_W} {nc ns : Nat} {Q : Option Value ⊕ Nat → qk_W → Nat → Nat → Prop}  (hw1 : wo w a0 0 fs2) (hf3 : fs2[0]? = some (.ref c4)) (h8 : ((.ref c4 :: st).map fun v => Value.category v).sum ≤ 8) (k : Ev d m_Q_messageOf 0 [some (.ref a0), some (.int x1), none] [] w nc ns (fun r w1 nc1 ns1 => match r with | .inl v => Ev (d + 1) m_Q_hear 9 [some (.ref a0), some (.int x1)] (v.toList ++ (.ref c4 :: st)) w1 nc1 ns1 Q | .inr x => Q (.inr x) w1 nc1 ns1)) : Ev (d + 1) m_Q_hear 0 [some (.ref a0), some (.int x1)] st w nc ns Q := by
  refine ev_aload_n d_Q_hear_0 rfl rfl ?_
  refine ev_getf d_Q_hear_1 fl_Q_10 hw1.1 hw1.2 hf3 ?_
  refine ev_aload_n d_Q_hear_4 rfl rfl ?_
  refine ev_iload_n d_Q_hear_5 rfl ?_
  exact ev_call (M' := m_Q_messageOf) (As := [.ref a0, .int x1]) (st := (.ref c4 :: st)) d_Q_hear_6 i_Q_messageOf (fun h => absurd h (by decide +kernel)) cw_Q_77 rfl rfl ⟨hw1.1, 0, _, _, hw1.2, rfl, rfl⟩ rfl (Nat.le_of_ble_eq_true rfl) h8 k
theorem t_Q_hear_9 {d : Nat} {st : List Value} {o0 : Option Value} {o1 : Option Value} {b0 : Nat} {b1 : Nat} {fsb : List Value} {w : qk_W} {nc ns : Nat} {Q : Option Value ⊕ Nat → qk_W → Nat → Nat → Prop}  (hb : wo w b1 1 fsb) (h8 : (st.map fun v => Value.category v).sum ≤ 8) (k : Ev d m_St_receive 0 [some (.ref b1), some (.ref b0), none] [] w nc ns (fun r w1 nc1 ns1 => match r with | .inl v => Ev (d + 1) m_Q_hear 12 [o0, o1] (v.toList ++ st) w1 nc1 ns1 Q | .inr x => Q (.inr x) w1 nc1 ns1)) : Ev (d + 1) m_Q_hear 9 [o0, o1] (.ref b0 :: .ref b1 :: st) w nc ns Q := by
  exact ev_call (M' := m_St_receive) (As := [.ref b1, .ref b0]) (st := st) d_Q_hear_9 i_St_receive (fun h => absurd h (by decide +kernel)) cw_Q_85 rfl rfl ⟨hb.1, 1, _, _, hb.2, rfl, rfl⟩ rfl (Nat.le_of_ble_eq_true rfl) h8 k
theorem t_Q_hear_12 {d : Nat} {o0 : Option Value} {o1 : Option Value} {y0 : Int32} {w : qk_W} {nc ns : Nat} {Q : Option Value ⊕ Nat → qk_W → Nat → Nat → Prop}   (hq : Q (.inl (some (.int y0))) w nc ns) : Ev d m_Q_hear 12 [o0, o1] [.int y0] w nc ns Q := by
  exact ev_iret d_Q_hear_12 rfl rfl hq
/-! Q_lose -/
theorem fl_Q_86 : qk_fl "QuakeLink" 86 8 1 := ⟨_, rfl, by decide, rfl, (lw_i1 _ (List.mem_of_getElem? (i := 239) rfl))⟩
theorem d_Q_lose_0 : decode m_Q_lose.2.1 0 = .ok (.aload_n 0, 1) := by decide +kernel
theorem d_Q_lose_1 : decode m_Q_lose.2.1 1 = .ok (.iload_n 1, 1) := by decide +kernel
theorem d_Q_lose_2 : decode m_Q_lose.2.1 2 = .ok (.invokevirtual 77, 3) := by decide +kernel
theorem d_Q_lose_5 : decode m_Q_lose.2.1 5 = .ok (.iconst 0, 1) := by decide +kernel
theorem d_Q_lose_6 : decode m_Q_lose.2.1 6 = .ok (.putfield 86, 3) := by decide +kernel
theorem d_Q_lose_9 : decode m_Q_lose.2.1 9 = .ok (.return_, 1) := by decide +kernel
theorem t_Q_lose_0 {d : Nat} {st : List Value} {a0 : Nat} {x1 : Int32} {fsb : List Value} {w : qk_W} {nc ns : Nat} {Q : Option Value ⊕ Nat → qk_W → Nat → Nat → Prop}  (hb : wo w a0 0 fsb) (h8 : (st.map fun v => Value.category v).sum ≤ 8) (k : Ev d m_Q_messageOf 0 [some (.ref a0), some (.int x1), none] [] w nc ns (fun r w1 nc1 ns1 => match r with | .inl v => Ev (d + 1) m_Q_lose 5 [some (.ref a0), some (.int x1)] (v.toList ++ st) w1 nc1 ns1 Q | .inr x => Q (.inr x) w1 nc1 ns1)) : Ev (d + 1) m_Q_lose 0 [some (.ref a0), some (.int x1)] st w nc ns Q := by
  refine ev_aload_n d_Q_lose_0 rfl rfl ?_
  refine ev_iload_n d_Q_lose_1 rfl ?_
  exact ev_call (M' := m_Q_messageOf) (As := [.ref a0, .int x1]) (st := st) d_Q_lose_2 i_Q_messageOf (fun h => absurd h (by decide +kernel)) cw_Q_77 rfl rfl ⟨hb.1, 0, _, _, hb.2, rfl, rfl⟩ rfl (Nat.le_of_ble_eq_true rfl) h8 k
theorem t_Q_lose_5 {d : Nat} {st : List Value} {o0 : Option Value} {o1 : Option Value} {b0 : Nat} {fs2 : List Value} {w : qk_W} {nc ns : Nat} {Q : Option Value ⊕ Nat → qk_W → Nat → Nat → Prop}  (hw1 : wo w b0 8 fs2) (hk : 1 < fs2.length) (k : Ev d m_Q_lose 9 [o0, o1] st (qk_set w b0 (.inr (8, fs2.set 1 (.int 0)))) nc ns Q) : Ev d m_Q_lose 5 [o0, o1] (.ref b0 :: st) w nc ns Q := by
  refine ev_iconst 0 d_Q_lose_5 (by decide) ?_
  exact ev_putf d_Q_lose_6 fl_Q_86 rfl hw1.1 hw1.2 hk (qk_fitI _) k
theorem t_Q_lose_9 {d : Nat} {o0 : Option Value} {o1 : Option Value} {w : qk_W} {nc ns : Nat} {Q : Option Value ⊕ Nat → qk_W → Nat → Nat → Prop}   (hq : Q (.inl none) w nc ns) : Ev d m_Q_lose 9 [o0, o1] [] w nc ns Q := by
  exact ev_vret d_Q_lose_9 rfl hq
/-! Q_length -/
theorem d_Q_length_0 : decode m_Q_length.2.1 0 = .ok (.aload_n 0, 1) := by decide +kernel
theorem d_Q_length_1 : decode m_Q_length.2.1 1 = .ok (.iload_n 1, 1) := by decide +kernel
theorem d_Q_length_2 : decode m_Q_length.2.1 2 = .ok (.invokevirtual 77, 3) := by decide +kernel
theorem d_Q_length_5 : decode m_Q_length.2.1 5 = .ok (.getfield 86, 3) := by decide +kernel
theorem d_Q_length_8 : decode m_Q_length.2.1 8 = .ok (.ireturn, 1) := by decide +kernel
theorem t_Q_length_0 {d : Nat} {st : List Value} {a0 : Nat} {x1 : Int32} {fsb : List Value} {w : qk_W} {nc ns : Nat} {Q : Option Value ⊕ Nat → qk_W → Nat → Nat → Prop}  (hb : wo w a0 0 fsb) (h8 : (st.map fun v => Value.category v).sum ≤ 8) (k : Ev d m_Q_messageOf 0 [some (.ref a0), some (.int x1), none] [] w nc ns (fun r w1 nc1 ns1 => match r with | .inl v => Ev (d + 1) m_Q_length 5 [some (.ref a0), some (.int x1)] (v.toList ++ st) w1 nc1 ns1 Q | .inr x => Q (.inr x) w1 nc1 ns1)) : Ev (d + 1) m_Q_length 0 [some (.ref a0), some (.int x1)] st w nc ns Q := by
  refine ev_aload_n d_Q_length_0 rfl rfl ?_
  refine ev_iload_n d_Q_length_1 rfl ?_
  exact ev_call (M' := m_Q_messageOf) (As := [.ref a0, .int x1]) (st := st) d_Q_length_2 i_Q_messageOf (fun h => absurd h (by decide +kernel)) cw_Q_77 rfl rfl ⟨hb.1, 0, _, _, hb.2, rfl, rfl⟩ rfl (Nat.le_of_ble_eq_true rfl) h8 k
theorem t_Q_length_5 {d : Nat} {o0 : Option Value} {o1 : Option Value} {b0 : Nat} {fs2 : List Value} {n4 : Int32} {w : qk_W} {nc ns : Nat} {Q : Option Value ⊕ Nat → qk_W → Nat → Nat → Prop}  (hw1 : wo w b0 8 fs2) (hf3 : fs2[1]? = some (.int n4)) (hq : Q (.inl (some (.int n4))) w nc ns) : Ev d m_Q_length 5 [o0, o1] [.ref b0] w nc ns Q := by
  refine ev_getf d_Q_length_5 fl_Q_86 hw1.1 hw1.2 hf3 ?_
  exact ev_iret d_Q_length_8 rfl rfl hq
/-! Q_air -/
theorem cw_Q_91 : qk_cw "QuakeLink" m_Q_messageWithByte.1 (.invokevirtual 91) := ⟨(lw_i4 _ (List.mem_of_getElem? (i := 69) rfl)), (lw_i4 _ (List.mem_of_getElem? (i := 71) rfl)), (lw_i0 _ (List.mem_of_getElem? (i := 19) rfl))⟩
theorem fl_Q_95 : qk_fl "QuakeLink" 95 8 0 := ⟨_, rfl, by decide, rfl, (lw_i1 _ (List.mem_of_getElem? (i := 232) rfl))⟩
theorem d_Q_air_0 : decode m_Q_air.2.1 0 = .ok (.aload_n 0, 1) := by decide +kernel
theorem d_Q_air_1 : decode m_Q_air.2.1 1 = .ok (.iload_n 1, 1) := by decide +kernel
theorem d_Q_air_2 : decode m_Q_air.2.1 2 = .ok (.iload_n 2, 1) := by decide +kernel
theorem d_Q_air_3 : decode m_Q_air.2.1 3 = .ok (.invokevirtual 91, 3) := by decide +kernel
theorem d_Q_air_6 : decode m_Q_air.2.1 6 = .ok (.getfield 95, 3) := by decide +kernel
theorem d_Q_air_9 : decode m_Q_air.2.1 9 = .ok (.iload_n 2, 1) := by decide +kernel
theorem d_Q_air_10 : decode m_Q_air.2.1 10 = .ok (.baload, 1) := by decide +kernel
theorem d_Q_air_11 : decode m_Q_air.2.1 11 = .ok (.sipush 255, 3) := by decide +kernel
theorem d_Q_air_14 : decode m_Q_air.2.1 14 = .ok (.iand, 1) := by decide +kernel
theorem d_Q_air_15 : decode m_Q_air.2.1 15 = .ok (.ireturn, 1) := by decide +kernel
theorem t_Q_air_0 {d : Nat} {st : List Value} {a0 : Nat} {x1 : Int32} {x2 : Int32} {fsb : List Value} {w : qk_W} {nc ns : Nat} {Q : Option Value ⊕ Nat → qk_W → Nat → Nat → Prop}  (hb : wo w a0 0 fsb) (h8 : (st.map fun v => Value.category v).sum ≤ 8) (k : Ev d m_Q_messageWithByte 0 [some (.ref a0), some (.int x1), some (.int x2), none] [] w nc ns (fun r w1 nc1 ns1 => match r with | .inl v => Ev (d + 1) m_Q_air 6 [some (.ref a0), some (.int x1), some (.int x2)] (v.toList ++ st) w1 nc1 ns1 Q | .inr x => Q (.inr x) w1 nc1 ns1)) : Ev (d + 1) m_Q_air 0 [some (.ref a0), some (.int x1), some (.int x2)] st w nc ns Q := by
  refine ev_aload_n d_Q_air_0 rfl rfl ?_
  refine ev_iload_n d_Q_air_1 rfl ?_
  refine ev_iload_n d_Q_air_2 rfl ?_
  exact ev_call (M' := m_Q_messageWithByte) (As := [.ref a0, .int x1, .int x2]) (st := st) d_Q_air_3 i_Q_messageWithByte (fun h => absurd h (by decide +kernel)) cw_Q_91 rfl rfl ⟨hb.1, 0, _, _, hb.2, rfl, rfl⟩ rfl (Nat.le_of_ble_eq_true rfl) h8 k
theorem t_Q_air_6 {d : Nat} {o0 : Option Value} {o1 : Option Value} {x2 : Int32} {b0 : Nat} {fs2 : List Value} {c4 : Nat} {n6 : Nat} {f7 : Nat → Int32} {w : qk_W} {nc ns : Nat} {Q : Option Value ⊕ Nat → qk_W → Nat → Nat → Prop}  (hw1 : wo w b0 8 fs2) (hf3 : fs2[0]? = some (.ref c4)) (ha5 : wb w c4 n6 f7) (hi8 : vp_in x2 n6) (hq : Q (.inl (some (.int ((f7 x2.toNatClampNeg) &&& 255)))) w nc ns) : Ev d m_Q_air 6 [o0, o1, some (.int x2)] [.ref b0] w nc ns Q := by
  refine ev_getf d_Q_air_6 fl_Q_95 hw1.1 hw1.2 hf3 ?_
  refine ev_iload_n d_Q_air_9 rfl ?_
  refine ev_bald d_Q_air_10 ha5.1 ha5.2 hi8 ?_
  refine ev_sipush 255 d_Q_air_11 (by decide) ?_
  refine ev_iand d_Q_air_14 ?_
  exact ev_iret d_Q_air_15 rfl rfl hq
/-! Q_messageWithByte -/
theorem xw_Q_messageWithByte_18 : qk_xw "QuakeLink" 132 197 136 12 "java/lang/IndexOutOfBoundsException" "no such byte" := ⟨rfl, (lw_i2 _ (List.mem_of_getElem? (i := 164) rfl)), (lw_i2 _ (List.mem_of_getElem? (i := 165) rfl)), (lw_i1 _ (List.mem_of_getElem? (i := 12) rfl)), (lw_i4 _ (List.mem_of_getElem? (i := 73) rfl)), by decide +kernel, by decide +kernel⟩
theorem d_Q_messageWithByte_0 : decode m_Q_messageWithByte.2.1 0 = .ok (.aload_n 0, 1) := by decide +kernel
theorem d_Q_messageWithByte_1 : decode m_Q_messageWithByte.2.1 1 = .ok (.iload_n 1, 1) := by decide +kernel
theorem d_Q_messageWithByte_2 : decode m_Q_messageWithByte.2.1 2 = .ok (.invokevirtual 77, 3) := by decide +kernel
theorem d_Q_messageWithByte_5 : decode m_Q_messageWithByte.2.1 5 = .ok (.astore_n 3, 1) := by decide +kernel
theorem d_Q_messageWithByte_6 : decode m_Q_messageWithByte.2.1 6 = .ok (.iload_n 2, 1) := by decide +kernel
theorem d_Q_messageWithByte_7 : decode m_Q_messageWithByte.2.1 7 = .ok (.ifCond .lt 11, 3) := by decide +kernel
theorem d_Q_messageWithByte_10 : decode m_Q_messageWithByte.2.1 10 = .ok (.iload_n 2, 1) := by decide +kernel
theorem d_Q_messageWithByte_11 : decode m_Q_messageWithByte.2.1 11 = .ok (.aload_n 3, 1) := by decide +kernel
theorem d_Q_messageWithByte_12 : decode m_Q_messageWithByte.2.1 12 = .ok (.getfield 86, 3) := by decide +kernel
theorem d_Q_messageWithByte_15 : decode m_Q_messageWithByte.2.1 15 = .ok (.if_icmp .lt 13, 3) := by decide +kernel
theorem d_Q_messageWithByte_18 : decode m_Q_messageWithByte.2.1 18 = .ok (.new 132, 3) := by decide +kernel
theorem d_Q_messageWithByte_21 : decode m_Q_messageWithByte.2.1 21 = .ok (.dup, 1) := by decide +kernel
theorem d_Q_messageWithByte_22 : decode m_Q_messageWithByte.2.1 22 = .ok (.ldc 197, 2) := by decide +kernel
theorem d_Q_messageWithByte_24 : decode m_Q_messageWithByte.2.1 24 = .ok (.invokespecial 136, 3) := by decide +kernel
theorem d_Q_messageWithByte_27 : decode m_Q_messageWithByte.2.1 27 = .ok (.athrow, 1) := by decide +kernel
theorem d_Q_messageWithByte_28 : decode m_Q_messageWithByte.2.1 28 = .ok (.aload_n 3, 1) := by decide +kernel
theorem d_Q_messageWithByte_29 : decode m_Q_messageWithByte.2.1 29 = .ok (.areturn, 1) := by decide +kernel
theorem t_Q_messageWithByte_0 {d : Nat} {st : List Value} {a0 : Nat} {x1 : Int32} {o2 : Option Value} {o3 : Option Value} {fsb : List Value} {w : qk_W} {nc ns : Nat} {Q : Option Value ⊕ Nat → qk_W → Nat → Nat → Prop}  (hb : wo w a0 0 fsb) (h8 : (st.map fun v => Value.category v).sum ≤ 8) (k : Ev d m_Q_messageOf 0 [some (.ref a0), some (.int x1), none] [] w nc ns (fun r w1 nc1 ns1 => match r with | .inl v => Ev (d + 1) m_Q_messageWithByte 5 [some (.ref a0), some (.int x1), o2, o3] (v.toList ++ st) w1 nc1 ns1 Q | .inr x => Q (.inr x) w1 nc1 ns1)) : Ev (d + 1) m_Q_messageWithByte 0 [some (.ref a0), some (.int x1), o2, o3] st w nc ns Q := by
  refine ev_aload_n d_Q_messageWithByte_0 rfl rfl ?_
  refine ev_iload_n d_Q_messageWithByte_1 rfl ?_
  exact ev_call (M' := m_Q_messageOf) (As := [.ref a0, .int x1]) (st := st) d_Q_messageWithByte_2 i_Q_messageOf (fun h => absurd h (by decide +kernel)) cw_Q_77 rfl rfl ⟨hb.1, 0, _, _, hb.2, rfl, rfl⟩ rfl (Nat.le_of_ble_eq_true rfl) h8 k
theorem t_Q_messageWithByte_5 {d : Nat} {st : List Value} {o0 : Option Value} {o1 : Option Value} {x2 : Int32} {o3 : Option Value} {s0 : Value} {w : qk_W} {nc ns : Nat} {Q : Option Value ⊕ Nat → qk_W → Nat → Nat → Prop} (hs0 : qk_isr s0 = true) (hc1 : qk_c2 [o0, o1, some (.int x2), o3] 3 = true) (kt : x2 < 0 → Ev d m_Q_messageWithByte 18 [o0, o1, some (.int x2), some s0] st w nc ns Q) (kf : ¬ (x2 < 0) → Ev d m_Q_messageWithByte 10 [o0, o1, some (.int x2), some s0] st w nc ns Q) : Ev d m_Q_messageWithByte 5 [o0, o1, some (.int x2), o3] (s0 :: st) w nc ns Q := by
  refine ev_astore_n d_Q_messageWithByte_5 hs0 (by decide) hc1 ?_
  refine ev_iload_n d_Q_messageWithByte_6 rfl ?_
  exact ev_if_lt 18 d_Q_messageWithByte_7 (by decide) kt kf
theorem t_Q_messageWithByte_10 {d : Nat} {st : List Value} {o0 : Option Value} {o1 : Option Value} {x2 : Int32} {a3 : Nat} {fs2 : List Value} {n4 : Int32} {w : qk_W} {nc ns : Nat} {Q : Option Value ⊕ Nat → qk_W → Nat → Nat → Prop}  (hw1 : wo w a3 8 fs2) (hf3 : fs2[1]? = some (.int n4)) (kt : x2 < n4 → Ev d m_Q_messageWithByte 28 [o0, o1, some (.int x2), some (.ref a3)] st w nc ns Q) (kf : ¬ (x2 < n4) → Ev d m_Q_messageWithByte 18 [o0, o1, some (.int x2), some (.ref a3)] st w nc ns Q) : Ev d m_Q_messageWithByte 10 [o0, o1, some (.int x2), some (.ref a3)] st w nc ns Q := by
  refine ev_iload_n d_Q_messageWithByte_10 rfl ?_
  refine ev_aload_n d_Q_messageWithByte_11 rfl rfl ?_
  refine ev_getf d_Q_messageWithByte_12 fl_Q_86 hw1.1 hw1.2 hf3 ?_
  exact ev_icmp_lt 28 d_Q_messageWithByte_15 (by decide) kt kf
theorem t_Q_messageWithByte_18 {d : Nat} {o0 : Option Value} {o1 : Option Value} {o2 : Option Value} {o3 : Option Value} {w : qk_W} {nc ns : Nat} {Q : Option Value ⊕ Nat → qk_W → Nat → Nat → Prop}  (v : Nat) (hv : 16 ≤ v) (hn : w v = none) (hq : Q (.inr v) (qk_set w v (.inr (12, []))) (nc + 1) (ns + 6)) : Ev (d + 6) m_Q_messageWithByte 18 [o0, o1, o2, o3] [] w nc ns Q := by
  exact ev_throw v d_Q_messageWithByte_18 d_Q_messageWithByte_21 d_Q_messageWithByte_22 d_Q_messageWithByte_24 d_Q_messageWithByte_27 xw_Q_messageWithByte_18 rfl (by omega) hv hn hq
theorem t_Q_messageWithByte_28 {d : Nat} {o0 : Option Value} {o1 : Option Value} {o2 : Option Value} {v3 : Value} {w : qk_W} {nc ns : Nat} {Q : Option Value ⊕ Nat → qk_W → Nat → Nat → Prop} (hv3 : qk_isr v3 = true)  (hq : Q (.inl (some (v3))) w nc ns) : Ev d m_Q_messageWithByte 28 [o0, o1, o2, some v3] [] w nc ns Q := by
  refine ev_aload_n d_Q_messageWithByte_28 rfl hv3 ?_
  exact ev_aret d_Q_messageWithByte_29 rfl hv3 hq
/-! Q_spoil -/
theorem d_Q_spoil_0 : decode m_Q_spoil.2.1 0 = .ok (.aload_n 0, 1) := by decide +kernel
theorem d_Q_spoil_1 : decode m_Q_spoil.2.1 1 = .ok (.iload_n 1, 1) := by decide +kernel
theorem d_Q_spoil_2 : decode m_Q_spoil.2.1 2 = .ok (.iload_n 2, 1) := by decide +kernel
theorem d_Q_spoil_3 : decode m_Q_spoil.2.1 3 = .ok (.invokevirtual 91, 3) := by decide +kernel
theorem d_Q_spoil_6 : decode m_Q_spoil.2.1 6 = .ok (.astore 4, 2) := by decide +kernel
theorem d_Q_spoil_8 : decode m_Q_spoil.2.1 8 = .ok (.aload 4, 2) := by decide +kernel
theorem d_Q_spoil_10 : decode m_Q_spoil.2.1 10 = .ok (.getfield 95, 3) := by decide +kernel
theorem d_Q_spoil_13 : decode m_Q_spoil.2.1 13 = .ok (.iload_n 2, 1) := by decide +kernel
theorem d_Q_spoil_14 : decode m_Q_spoil.2.1 14 = .ok (.aload 4, 2) := by decide +kernel
theorem d_Q_spoil_16 : decode m_Q_spoil.2.1 16 = .ok (.getfield 95, 3) := by decide +kernel
theorem d_Q_spoil_19 : decode m_Q_spoil.2.1 19 = .ok (.iload_n 2, 1) := by decide +kernel
theorem d_Q_spoil_20 : decode m_Q_spoil.2.1 20 = .ok (.baload, 1) := by decide +kernel
theorem d_Q_spoil_21 : decode m_Q_spoil.2.1 21 = .ok (.iload_n 3, 1) := by decide +kernel
theorem d_Q_spoil_22 : decode m_Q_spoil.2.1 22 = .ok (.ixor, 1) := by decide +kernel
theorem d_Q_spoil_23 : decode m_Q_spoil.2.1 23 = .ok (.i2b, 1) := by decide +kernel
theorem d_Q_spoil_24 : decode m_Q_spoil.2.1 24 = .ok (.bastore, 1) := by decide +kernel
theorem d_Q_spoil_25 : decode m_Q_spoil.2.1 25 = .ok (.return_, 1) := by decide +kernel
theorem t_Q_spoil_0 {d : Nat} {st : List Value} {a0 : Nat} {x1 : Int32} {x2 : Int32} {o3 : Option Value} {o4 : Option Value} {fsb : List Value} {w : qk_W} {nc ns : Nat} {Q : Option Value ⊕ Nat → qk_W → Nat → Nat → Prop}  (hb : wo w a0 0 fsb) (h8 : (st.map fun v => Value.category v).sum ≤ 8) (k : Ev d m_Q_messageWithByte 0 [some (.ref a0), some (.int x1), some (.int x2), none] [] w nc ns (fun r w1 nc1 ns1 => match r with | .inl v => Ev (d + 1) m_Q_spoil 6 [some (.ref a0), some (.int x1), some (.int x2), o3, o4] (v.toList ++ st) w1 nc1 ns1 Q | .inr x => Q (.inr x) w1 nc1 ns1)) : Ev (d + 1) m_Q_spoil 0 [some (.ref a0), some (.int x1), some (.int x2), o3, o4] st w nc ns Q := by
  refine ev_aload_n d_Q_spoil_0 rfl rfl ?_
  refine ev_iload_n d_Q_spoil_1 rfl ?_
  refine ev_iload_n d_Q_spoil_2 rfl ?_
  exact ev_call (M' := m_Q_messageWithByte) (As := [.ref a0, .int x1, .int x2]) (st := st) d_Q_spoil_3 i_Q_messageWithByte (fun h => absurd h (by decide +kernel)) cw_Q_91 rfl rfl ⟨hb.1, 0, _, _, hb.2, rfl, rfl⟩ rfl (Nat.le_of_ble_eq_true rfl) h8 k
theorem t_Q_spoil_6 {d : Nat} {st : List Value} {o0 : Option Value} {o1 : Option Value} {x2 : Int32} {x3 : Int32} {o4 : Option Value} {b0 : Nat} {fs3 : List Value} {c5 : Nat} {n10 : Nat} {f11 : Nat → Int32} {w : qk_W} {nc ns : Nat} {Q : Option Value ⊕ Nat → qk_W → Nat → Nat → Prop}  (hc1 : qk_c2 [o0, o1, some (.int x2), some (.int x3), o4] 4 = true) (hw2 : wo w b0 8 fs3) (hf4 : fs3[0]? = some (.ref c5)) (ha9 : wb w c5 n10 f11) (hi12 : vp_in x2 n10) (k : Ev d m_Q_spoil 25 [o0, o1, some (.int x2), some (.int x3), some (.ref b0)] st (qk_set w c5 (.inl (.byte, n10, .inl (upd f11 x2.toNatClampNeg (Int32.toInt8 ((Int32.toInt8 ((f11 x2.toNatClampNeg) ^^^ x3)).toInt32)).toInt32)))) nc ns Q) : Ev d m_Q_spoil 6 [o0, o1, some (.int x2), some (.int x3), o4] (.ref b0 :: st) w nc ns Q := by
  refine ev_astore d_Q_spoil_6 rfl (by decide) hc1 ?_
  refine ev_aload d_Q_spoil_8 rfl rfl ?_
  refine ev_getf d_Q_spoil_10 fl_Q_95 hw2.1 hw2.2 hf4 ?_
  refine ev_iload_n d_Q_spoil_13 rfl ?_
  refine ev_aload d_Q_spoil_14 rfl rfl ?_
  refine ev_getf d_Q_spoil_16 fl_Q_95 hw2.1 hw2.2 hf4 ?_
  refine ev_iload_n d_Q_spoil_19 rfl ?_
  refine ev_bald d_Q_spoil_20 ha9.1 ha9.2 hi12 ?_
  refine ev_iload_n d_Q_spoil_21 rfl ?_
  refine ev_ixor d_Q_spoil_22 ?_
  refine ev_i2b d_Q_spoil_23 ?_
  exact ev_bast d_Q_spoil_24 ha9.1 ha9.2 hi12 k
theorem t_Q_spoil_25 {d : Nat} {o0 : Option Value} {o1 : Option Value} {o2 : Option Value} {o3 : Option Value} {o4 : Option Value} {w : qk_W} {nc ns : Nat} {Q : Option Value ⊕ Nat → qk_W → Nat → Nat → Prop}   (hq : Q (.inl none) w nc ns) : Ev d m_Q_spoil 25 [o0, o1, o2, o3, o4] [] w nc ns Q := by
  exact ev_vret d_Q_spoil_25 rfl hq
/-! Q_mend -/
theorem cw_Q_99 : qk_cw "QuakeLink" m_Me_seal.1 (.invokevirtual 99) := ⟨(lw_i4 _ (List.mem_of_getElem? (i := 88) rfl)), (lw_i2 _ (List.mem_of_getElem? (i := 89) rfl)), (lw_i2 _ (List.mem_of_getElem? (i := 90) rfl))⟩
theorem d_Q_mend_0 : decode m_Q_mend.2.1 0 = .ok (.aload_n 0, 1) := by decide +kernel
theorem d_Q_mend_1 : decode m_Q_mend.2.1 1 = .ok (.iload_n 1, 1) := by decide +kernel
theorem d_Q_mend_2 : decode m_Q_mend.2.1 2 = .ok (.invokevirtual 77, 3) := by decide +kernel
theorem d_Q_mend_5 : decode m_Q_mend.2.1 5 = .ok (.invokevirtual 99, 3) := by decide +kernel
theorem d_Q_mend_8 : decode m_Q_mend.2.1 8 = .ok (.return_, 1) := by decide +kernel
theorem t_Q_mend_0 {d : Nat} {st : List Value} {a0 : Nat} {x1 : Int32} {fsb : List Value} {w : qk_W} {nc ns : Nat} {Q : Option Value ⊕ Nat → qk_W → Nat → Nat → Prop}  (hb : wo w a0 0 fsb) (h8 : (st.map fun v => Value.category v).sum ≤ 8) (k : Ev d m_Q_messageOf 0 [some (.ref a0), some (.int x1), none] [] w nc ns (fun r w1 nc1 ns1 => match r with | .inl v => Ev (d + 1) m_Q_mend 5 [some (.ref a0), some (.int x1)] (v.toList ++ st) w1 nc1 ns1 Q | .inr x => Q (.inr x) w1 nc1 ns1)) : Ev (d + 1) m_Q_mend 0 [some (.ref a0), some (.int x1)] st w nc ns Q := by
  refine ev_aload_n d_Q_mend_0 rfl rfl ?_
  refine ev_iload_n d_Q_mend_1 rfl ?_
  exact ev_call (M' := m_Q_messageOf) (As := [.ref a0, .int x1]) (st := st) d_Q_mend_2 i_Q_messageOf (fun h => absurd h (by decide +kernel)) cw_Q_77 rfl rfl ⟨hb.1, 0, _, _, hb.2, rfl, rfl⟩ rfl (Nat.le_of_ble_eq_true rfl) h8 k
theorem t_Q_mend_5 {d : Nat} {st : List Value} {o0 : Option Value} {o1 : Option Value} {b0 : Nat} {fsb : List Value} {w : qk_W} {nc ns : Nat} {Q : Option Value ⊕ Nat → qk_W → Nat → Nat → Prop}  (hb : wo w b0 8 fsb) (h8 : (st.map fun v => Value.category v).sum ≤ 8) (k : Ev d m_Me_seal 0 [some (.ref b0)] [] w nc ns (fun r w1 nc1 ns1 => match r with | .inl v => Ev (d + 1) m_Q_mend 8 [o0, o1] (v.toList ++ st) w1 nc1 ns1 Q | .inr x => Q (.inr x) w1 nc1 ns1)) : Ev (d + 1) m_Q_mend 5 [o0, o1] (.ref b0 :: st) w nc ns Q := by
  exact ev_call (M' := m_Me_seal) (As := [.ref b0]) (st := st) d_Q_mend_5 i_Me_seal (fun h => absurd h (by decide +kernel)) cw_Q_99 rfl rfl ⟨hb.1, 8, _, _, hb.2, rfl, rfl⟩ rfl (Nat.le_of_ble_eq_true rfl) h8 k
theorem t_Q_mend_8 {d : Nat} {o0 : Option Value} {o1 : Option Value} {w : qk_W} {nc ns : Nat} {Q : Option Value ⊕ Nat → qk_W → Nat → Nat → Prop}   (hq : Q (.inl none) w nc ns) : Ev d m_Q_mend 8 [o0, o1] [] w nc ns Q := by
  exact ev_vret d_Q_mend_8 rfl hq
/-! Q_has -/
theorem cw_Q_102 : qk_cw "QuakeLink" m_Q_trackOf.1 (.invokevirtual 102) := ⟨(lw_i4 _ (List.mem_of_getElem? (i := 96) rfl)), (lw_i4 _ (List.mem_of_getElem? (i := 98) rfl)), (lw_i0 _ (List.mem_of_getElem? (i := 20) rfl))⟩
theorem fl_Q_106 : qk_fl "QuakeLink" 106 6 0 := ⟨_, rfl, by decide, rfl, (lw_i1 _ (List.mem_of_getElem? (i := 138) rfl))⟩
theorem cw_Q_112 : qk_cw "QuakeLink" m_Ns_contains.1 (.invokevirtual 112) := ⟨(lw_i4 _ (List.mem_of_getElem? (i := 100) rfl)), (lw_i3 _ (List.mem_of_getElem? (i := 228) rfl)), (lw_i3 _ (List.mem_of_getElem? (i := 229) rfl))⟩
theorem d_Q_has_0 : decode m_Q_has.2.1 0 = .ok (.aload_n 0, 1) := by decide +kernel
theorem d_Q_has_1 : decode m_Q_has.2.1 1 = .ok (.iload_n 1, 1) := by decide +kernel
theorem d_Q_has_2 : decode m_Q_has.2.1 2 = .ok (.invokevirtual 102, 3) := by decide +kernel
theorem d_Q_has_5 : decode m_Q_has.2.1 5 = .ok (.getfield 106, 3) := by decide +kernel
theorem d_Q_has_8 : decode m_Q_has.2.1 8 = .ok (.iload_n 2, 1) := by decide +kernel
theorem d_Q_has_9 : decode m_Q_has.2.1 9 = .ok (.invokevirtual 112, 3) := by decide +kernel
theorem d_Q_has_12 : decode m_Q_has.2.1 12 = .ok (.ireturn, 1) := by decide +kernel
theorem t_Q_has_0 {d : Nat} {st : List Value} {a0 : Nat} {x1 : Int32} {o2 : Option Value} {fsb : List Value} {w : qk_W} {nc ns : Nat} {Q : Option Value ⊕ Nat → qk_W → Nat → Nat → Prop}  (hb : wo w a0 0 fsb) (h8 : (st.map fun v => Value.category v).sum ≤ 8) (k : Ev d m_Q_trackOf 0 [some (.ref a0), some (.int x1)] [] w nc ns (fun r w1 nc1 ns1 => match r with | .inl v => Ev (d + 1) m_Q_has 5 [some (.ref a0), some (.int x1), o2] (v.toList ++ st) w1 nc1 ns1 Q | .inr x => Q (.inr x) w1 nc1 ns1)) : Ev (d + 1) m_Q_has 0 [some (.ref a0), some (.int x1), o2] st w nc ns Q := by
  refine ev_aload_n d_Q_has_0 rfl rfl ?_
  refine ev_iload_n d_Q_has_1 rfl ?_
  exact ev_call (M' := m_Q_trackOf) (As := [.ref a0, .int x1]) (st := st) d_Q_has_2 i_Q_trackOf (fun h => absurd h (by decide +kernel)) cw_Q_102 rfl rfl ⟨hb.1, 0, _, _, hb.2, rfl, rfl⟩ rfl (Nat.le_of_ble_eq_true rfl) h8 k
theorem t_Q_has_5 {d : Nat} {st : List Value} {o0 : Option Value} {o1 : Option Value} {x2 : Int32} {b0 : Nat} {fs2 : List Value} {c4 : Nat} {fsb : List Value} {w : qk_W} {nc ns : Nat} {Q : Option Value ⊕ Nat → qk_W → Nat → Nat → Prop}  (hw1 : wo w b0 6 fs2) (hf3 : fs2[0]? = some (.ref c4)) (hb : wo w c4 3 fsb) (h8 : (st.map fun v => Value.category v).sum ≤ 8) (k : Ev d m_Ns_contains 0 [some (.ref c4), some (.int x2)] [] w nc ns (fun r w1 nc1 ns1 => match r with | .inl v => Ev (d + 1) m_Q_has 12 [o0, o1, some (.int x2)] (v.toList ++ st) w1 nc1 ns1 Q | .inr x => Q (.inr x) w1 nc1 ns1)) : Ev (d + 1) m_Q_has 5 [o0, o1, some (.int x2)] (.ref b0 :: st) w nc ns Q := by
  refine ev_getf d_Q_has_5 fl_Q_106 hw1.1 hw1.2 hf3 ?_
  refine ev_iload_n d_Q_has_8 rfl ?_
  exact ev_call (M' := m_Ns_contains) (As := [.ref c4, .int x2]) (st := st) d_Q_has_9 i_Ns_contains (fun h => absurd h (by decide +kernel)) cw_Q_112 rfl rfl ⟨hb.1, 3, _, _, hb.2, rfl, rfl⟩ rfl (Nat.le_of_ble_eq_true rfl) h8 k
theorem t_Q_has_12 {d : Nat} {o0 : Option Value} {o1 : Option Value} {o2 : Option Value} {y0 : Int32} {w : qk_W} {nc ns : Nat} {Q : Option Value ⊕ Nat → qk_W → Nat → Nat → Prop}  (hn : narrow .boolean (.int y0) = .int y0) (hq : Q (.inl (some (.int y0))) w nc ns) : Ev d m_Q_has 12 [o0, o1, o2] [.int y0] w nc ns Q := by
  exact ev_iret d_Q_has_12 rfl hn hq
/-! Q_trackOf -/
theorem fl_Q_188 : qk_fl "QuakeLink" 188 5 0 := ⟨_, rfl, by decide, rfl, (lw_i1 _ (List.mem_of_getElem? (i := 150) rfl))⟩
theorem xw_Q_trackOf_8 : qk_xw "QuakeLink" 132 182 136 12 "java/lang/IndexOutOfBoundsException" "no such channel" := ⟨rfl, (lw_i2 _ (List.mem_of_getElem? (i := 164) rfl)), (lw_i2 _ (List.mem_of_getElem? (i := 165) rfl)), (lw_i1 _ (List.mem_of_getElem? (i := 12) rfl)), (lw_i2 _ (List.mem_of_getElem? (i := 205) rfl)), by decide +kernel, by decide +kernel⟩
theorem d_Q_trackOf_0 : decode m_Q_trackOf.2.1 0 = .ok (.iload_n 1, 1) := by decide +kernel
theorem d_Q_trackOf_1 : decode m_Q_trackOf.2.1 1 = .ok (.i2l, 1) := by decide +kernel
theorem d_Q_trackOf_2 : decode m_Q_trackOf.2.1 2 = .ok (.invokestatic 178, 3) := by decide +kernel
theorem d_Q_trackOf_5 : decode m_Q_trackOf.2.1 5 = .ok (.ifCond .ne 13, 3) := by decide +kernel
theorem d_Q_trackOf_8 : decode m_Q_trackOf.2.1 8 = .ok (.new 132, 3) := by decide +kernel
theorem d_Q_trackOf_11 : decode m_Q_trackOf.2.1 11 = .ok (.dup, 1) := by decide +kernel
theorem d_Q_trackOf_12 : decode m_Q_trackOf.2.1 12 = .ok (.ldc 182, 2) := by decide +kernel
theorem d_Q_trackOf_14 : decode m_Q_trackOf.2.1 14 = .ok (.invokespecial 136, 3) := by decide +kernel
theorem d_Q_trackOf_17 : decode m_Q_trackOf.2.1 17 = .ok (.athrow, 1) := by decide +kernel
theorem d_Q_trackOf_18 : decode m_Q_trackOf.2.1 18 = .ok (.aload_n 0, 1) := by decide +kernel
theorem d_Q_trackOf_19 : decode m_Q_trackOf.2.1 19 = .ok (.getfield 26, 3) := by decide +kernel
theorem d_Q_trackOf_22 : decode m_Q_trackOf.2.1 22 = .ok (.getfield 188, 3) := by decide +kernel
theorem d_Q_trackOf_25 : decode m_Q_trackOf.2.1 25 = .ok (.iload_n 1, 1) := by decide +kernel
theorem d_Q_trackOf_26 : decode m_Q_trackOf.2.1 26 = .ok (.aaload, 1) := by decide +kernel
theorem d_Q_trackOf_27 : decode m_Q_trackOf.2.1 27 = .ok (.areturn, 1) := by decide +kernel
theorem t_Q_trackOf_0 {d : Nat} {st : List Value} {o0 : Option Value} {x1 : Int32} {w : qk_W} {nc ns : Nat} {Q : Option Value ⊕ Nat → qk_W → Nat → Nat → Prop}  (h8 : (st.map fun v => Value.category v).sum ≤ 8) (k : Ev d m_Q_isChannel 0 [some (.long (Int32.toInt64 x1)), none] [] w nc ns (fun r w1 nc1 ns1 => match r with | .inl v => Ev (d + 1) m_Q_trackOf 5 [o0, some (.int x1)] (v.toList ++ st) w1 nc1 ns1 Q | .inr x => Q (.inr x) w1 nc1 ns1)) : Ev (d + 1) m_Q_trackOf 0 [o0, some (.int x1)] st w nc ns Q := by
  refine ev_iload_n d_Q_trackOf_0 rfl ?_
  refine ev_i2l d_Q_trackOf_1 ?_
  exact ev_call (M' := m_Q_isChannel) (As := [.long (Int32.toInt64 x1)]) (st := st) d_Q_trackOf_2 i_Q_isChannel (fun h => absurd h (by decide +kernel)) cw_Q_178 rfl rfl trivial rfl (Nat.le_of_ble_eq_true rfl) h8 k
theorem t_Q_trackOf_5 {d : Nat} {st : List Value} {o0 : Option Value} {o1 : Option Value} {y0 : Int32} {w : qk_W} {nc ns : Nat} {Q : Option Value ⊕ Nat → qk_W → Nat → Nat → Prop}   (kt : ¬ y0 = 0 → Ev d m_Q_trackOf 18 [o0, o1] st w nc ns Q) (kf : y0 = 0 → Ev d m_Q_trackOf 8 [o0, o1] st w nc ns Q) : Ev d m_Q_trackOf 5 [o0, o1] (.int y0 :: st) w nc ns Q := by
  exact ev_if_ne 18 d_Q_trackOf_5 (by decide) kt kf
theorem t_Q_trackOf_8 {d : Nat} {o0 : Option Value} {o1 : Option Value} {w : qk_W} {nc ns : Nat} {Q : Option Value ⊕ Nat → qk_W → Nat → Nat → Prop}  (v : Nat) (hv : 16 ≤ v) (hn : w v = none) (hq : Q (.inr v) (qk_set w v (.inr (12, []))) (nc + 1) (ns + 6)) : Ev (d + 6) m_Q_trackOf 8 [o0, o1] [] w nc ns Q := by
  exact ev_throw v d_Q_trackOf_8 d_Q_trackOf_11 d_Q_trackOf_12 d_Q_trackOf_14 d_Q_trackOf_17 xw_Q_trackOf_8 rfl (by omega) hv hn hq
theorem t_Q_trackOf_18 {d : Nat} {a0 : Nat} {x1 : Int32} {fs2 : List Value} {c4 : Nat} {fs6 : List Value} {c8 : Nat} {n10 : Nat} {f11 : Nat → Option Nat} {c14 : Nat} {w : qk_W} {nc ns : Nat} {Q : Option Value ⊕ Nat → qk_W → Nat → Nat → Prop}  (hw1 : wo w a0 0 fs2) (hf3 : fs2[2]? = some (.ref c4)) (hw5 : wo w c4 5 fs6) (hf7 : fs6[0]? = some (.ref c8)) (ha9 : wr "QuakeLink$Track" w c8 n10 f11) (hi12 : vp_in x1 n10) (hr13 : f11 x1.toNatClampNeg = some c14) (hq : Q (.inl (some (.ref c14))) w nc ns) : Ev d m_Q_trackOf 18 [some (.ref a0), some (.int x1)] [] w nc ns Q := by
  refine ev_aload_n d_Q_trackOf_18 rfl rfl ?_
  refine ev_getf d_Q_trackOf_19 fl_Q_26 hw1.1 hw1.2 hf3 ?_
  refine ev_getf d_Q_trackOf_22 fl_Q_188 hw5.1 hw5.2 hf7 ?_
  refine ev_iload_n d_Q_trackOf_25 rfl ?_
  refine ev_aald d_Q_trackOf_26 ha9.1 (by decide) ha9.2 hi12 ?_
  rw [hr13]
  show Ev _ _ _ _ (Value.ref c14 :: _) _ _ _ _
  exact ev_aret d_Q_trackOf_27 rfl rfl hq
/-! Q_at -/
theorem cw_Q_118 : qk_cw "QuakeLink" m_Tr_valueOf.1 (.invokevirtual 118) := ⟨(lw_i4 _ (List.mem_of_getElem? (i := 108) rfl)), (lw_i3 _ (List.mem_of_getElem? (i := 232) rfl)), (lw_i3 _ (List.mem_of_getElem? (i := 233) rfl))⟩
theorem d_Q_at_0 : decode m_Q_at.2.1 0 = .ok (.aload_n 0, 1) := by decide +kernel
theorem d_Q_at_1 : decode m_Q_at.2.1 1 = .ok (.iload_n 1, 1) := by decide +kernel
theorem d_Q_at_2 : decode m_Q_at.2.1 2 = .ok (.invokevirtual 102, 3) := by decide +kernel
theorem d_Q_at_5 : decode m_Q_at.2.1 5 = .ok (.iload_n 2, 1) := by decide +kernel
theorem d_Q_at_6 : decode m_Q_at.2.1 6 = .ok (.invokevirtual 118, 3) := by decide +kernel
theorem d_Q_at_9 : decode m_Q_at.2.1 9 = .ok (.ireturn, 1) := by decide +kernel
theorem t_Q_at_0 {d : Nat} {st : List Value} {a0 : Nat} {x1 : Int32} {o2 : Option Value} {fsb : List Value} {w : qk_W} {nc ns : Nat} {Q : Option Value ⊕ Nat → qk_W → Nat → Nat → Prop}  (hb : wo w a0 0 fsb) (h8 : (st.map fun v => Value.category v).sum ≤ 8) (k : Ev d m_Q_trackOf 0 [some (.ref a0), some (.int x1)] [] w nc ns (fun r w1 nc1 ns1 => match r with | .inl v => Ev (d + 1) m_Q_at 5 [some (.ref a0), some (.int x1), o2] (v.toList ++ st) w1 nc1 ns1 Q | .inr x => Q (.inr x) w1 nc1 ns1)) : Ev (d + 1) m_Q_at 0 [some (.ref a0), some (.int x1), o2] st w nc ns Q := by
  refine ev_aload_n d_Q_at_0 rfl rfl ?_
  refine ev_iload_n d_Q_at_1 rfl ?_
  exact ev_call (M' := m_Q_trackOf) (As := [.ref a0, .int x1]) (st := st) d_Q_at_2 i_Q_trackOf (fun h => absurd h (by decide +kernel)) cw_Q_102 rfl rfl ⟨hb.1, 0, _, _, hb.2, rfl, rfl⟩ rfl (Nat.le_of_ble_eq_true rfl) h8 k
theorem t_Q_at_5 {d : Nat} {st : List Value} {o0 : Option Value} {o1 : Option Value} {x2 : Int32} {b0 : Nat} {fsb : List Value} {w : qk_W} {nc ns : Nat} {Q : Option Value ⊕ Nat → qk_W → Nat → Nat → Prop}  (hb : wo w b0 6 fsb) (h8 : (st.map fun v => Value.category v).sum ≤ 8) (k : Ev d m_Tr_valueOf 0 [some (.ref b0), some (.int x2)] [] w nc ns (fun r w1 nc1 ns1 => match r with | .inl v => Ev (d + 1) m_Q_at 9 [o0, o1, some (.int x2)] (v.toList ++ st) w1 nc1 ns1 Q | .inr x => Q (.inr x) w1 nc1 ns1)) : Ev (d + 1) m_Q_at 5 [o0, o1, some (.int x2)] (.ref b0 :: st) w nc ns Q := by
  refine ev_iload_n d_Q_at_5 rfl ?_
  exact ev_call (M' := m_Tr_valueOf) (As := [.ref b0, .int x2]) (st := st) d_Q_at_6 i_Tr_valueOf (fun h => absurd h (by decide +kernel)) cw_Q_118 rfl rfl ⟨hb.1, 6, _, _, hb.2, rfl, rfl⟩ rfl (Nat.le_of_ble_eq_true rfl) h8 k
theorem t_Q_at_9 {d : Nat} {o0 : Option Value} {o1 : Option Value} {o2 : Option Value} {y0 : Int32} {w : qk_W} {nc ns : Nat} {Q : Option Value ⊕ Nat → qk_W → Nat → Nat → Prop}   (hq : Q (.inl (some (.int y0))) w nc ns) : Ev d m_Q_at 9 [o0, o1, o2] [.int y0] w nc ns Q := by
  exact ev_iret d_Q_at_9 rfl rfl hq
/-! Q_qualityAt -/
theorem cw_Q_122 : qk_cw "QuakeLink" m_Tr_qualityOf.1 (.invokevirtual 122) := ⟨(lw_i4 _ (List.mem_of_getElem? (i := 116) rfl)), (lw_i4 _ (List.mem_of_getElem? (i := 117) rfl)), (lw_i4 _ (List.mem_of_getElem? (i := 118) rfl))⟩
theorem d_Q_qualityAt_0 : decode m_Q_qualityAt.2.1 0 = .ok (.aload_n 0, 1) := by decide +kernel
theorem d_Q_qualityAt_1 : decode m_Q_qualityAt.2.1 1 = .ok (.iload_n 1, 1) := by decide +kernel
theorem d_Q_qualityAt_2 : decode m_Q_qualityAt.2.1 2 = .ok (.invokevirtual 102, 3) := by decide +kernel
theorem d_Q_qualityAt_5 : decode m_Q_qualityAt.2.1 5 = .ok (.iload_n 2, 1) := by decide +kernel
theorem d_Q_qualityAt_6 : decode m_Q_qualityAt.2.1 6 = .ok (.invokevirtual 122, 3) := by decide +kernel
theorem d_Q_qualityAt_9 : decode m_Q_qualityAt.2.1 9 = .ok (.ireturn, 1) := by decide +kernel
theorem t_Q_qualityAt_0 {d : Nat} {st : List Value} {a0 : Nat} {x1 : Int32} {o2 : Option Value} {fsb : List Value} {w : qk_W} {nc ns : Nat} {Q : Option Value ⊕ Nat → qk_W → Nat → Nat → Prop}  (hb : wo w a0 0 fsb) (h8 : (st.map fun v => Value.category v).sum ≤ 8) (k : Ev d m_Q_trackOf 0 [some (.ref a0), some (.int x1)] [] w nc ns (fun r w1 nc1 ns1 => match r with | .inl v => Ev (d + 1) m_Q_qualityAt 5 [some (.ref a0), some (.int x1), o2] (v.toList ++ st) w1 nc1 ns1 Q | .inr x => Q (.inr x) w1 nc1 ns1)) : Ev (d + 1) m_Q_qualityAt 0 [some (.ref a0), some (.int x1), o2] st w nc ns Q := by
  refine ev_aload_n d_Q_qualityAt_0 rfl rfl ?_
  refine ev_iload_n d_Q_qualityAt_1 rfl ?_
  exact ev_call (M' := m_Q_trackOf) (As := [.ref a0, .int x1]) (st := st) d_Q_qualityAt_2 i_Q_trackOf (fun h => absurd h (by decide +kernel)) cw_Q_102 rfl rfl ⟨hb.1, 0, _, _, hb.2, rfl, rfl⟩ rfl (Nat.le_of_ble_eq_true rfl) h8 k
theorem t_Q_qualityAt_5 {d : Nat} {st : List Value} {o0 : Option Value} {o1 : Option Value} {x2 : Int32} {b0 : Nat} {fsb : List Value} {w : qk_W} {nc ns : Nat} {Q : Option Value ⊕ Nat → qk_W → Nat → Nat → Prop}  (hb : wo w b0 6 fsb) (h8 : (st.map fun v => Value.category v).sum ≤ 8) (k : Ev d m_Tr_qualityOf 0 [some (.ref b0), some (.int x2)] [] w nc ns (fun r w1 nc1 ns1 => match r with | .inl v => Ev (d + 1) m_Q_qualityAt 9 [o0, o1, some (.int x2)] (v.toList ++ st) w1 nc1 ns1 Q | .inr x => Q (.inr x) w1 nc1 ns1)) : Ev (d + 1) m_Q_qualityAt 5 [o0, o1, some (.int x2)] (.ref b0 :: st) w nc ns Q := by
  refine ev_iload_n d_Q_qualityAt_5 rfl ?_
  exact ev_call (M' := m_Tr_qualityOf) (As := [.ref b0, .int x2]) (st := st) d_Q_qualityAt_6 i_Tr_qualityOf (fun h => absurd h (by decide +kernel)) cw_Q_122 rfl rfl ⟨hb.1, 6, _, _, hb.2, rfl, rfl⟩ rfl (Nat.le_of_ble_eq_true rfl) h8 k
theorem t_Q_qualityAt_9 {d : Nat} {o0 : Option Value} {o1 : Option Value} {o2 : Option Value} {y0 : Int32} {w : qk_W} {nc ns : Nat} {Q : Option Value ⊕ Nat → qk_W → Nat → Nat → Prop}   (hq : Q (.inl (some (.int y0))) w nc ns) : Ev d m_Q_qualityAt 9 [o0, o1, o2] [.int y0] w nc ns Q := by
  exact ev_iret d_Q_qualityAt_9 rfl rfl hq
/-! Q_gaps -/
theorem cw_Q_125 : qk_cw "QuakeLink" m_Tr_howManyGaps.1 (.invokevirtual 125) := ⟨(lw_i4 _ (List.mem_of_getElem? (i := 127) rfl)), (lw_i4 _ (List.mem_of_getElem? (i := 128) rfl)), (lw_i4 _ (List.mem_of_getElem? (i := 129) rfl))⟩
theorem d_Q_gaps_0 : decode m_Q_gaps.2.1 0 = .ok (.aload_n 0, 1) := by decide +kernel
theorem d_Q_gaps_1 : decode m_Q_gaps.2.1 1 = .ok (.iload_n 1, 1) := by decide +kernel
theorem d_Q_gaps_2 : decode m_Q_gaps.2.1 2 = .ok (.invokevirtual 102, 3) := by decide +kernel
theorem d_Q_gaps_5 : decode m_Q_gaps.2.1 5 = .ok (.invokevirtual 125, 3) := by decide +kernel
theorem d_Q_gaps_8 : decode m_Q_gaps.2.1 8 = .ok (.ireturn, 1) := by decide +kernel
theorem t_Q_gaps_0 {d : Nat} {st : List Value} {a0 : Nat} {x1 : Int32} {fsb : List Value} {w : qk_W} {nc ns : Nat} {Q : Option Value ⊕ Nat → qk_W → Nat → Nat → Prop}  (hb : wo w a0 0 fsb) (h8 : (st.map fun v => Value.category v).sum ≤ 8) (k : Ev d m_Q_trackOf 0 [some (.ref a0), some (.int x1)] [] w nc ns (fun r w1 nc1 ns1 => match r with | .inl v => Ev (d + 1) m_Q_gaps 5 [some (.ref a0), some (.int x1)] (v.toList ++ st) w1 nc1 ns1 Q | .inr x => Q (.inr x) w1 nc1 ns1)) : Ev (d + 1) m_Q_gaps 0 [some (.ref a0), some (.int x1)] st w nc ns Q := by
  refine ev_aload_n d_Q_gaps_0 rfl rfl ?_
  refine ev_iload_n d_Q_gaps_1 rfl ?_
  exact ev_call (M' := m_Q_trackOf) (As := [.ref a0, .int x1]) (st := st) d_Q_gaps_2 i_Q_trackOf (fun h => absurd h (by decide +kernel)) cw_Q_102 rfl rfl ⟨hb.1, 0, _, _, hb.2, rfl, rfl⟩ rfl (Nat.le_of_ble_eq_true rfl) h8 k
theorem t_Q_gaps_5 {d : Nat} {st : List Value} {o0 : Option Value} {o1 : Option Value} {b0 : Nat} {fsb : List Value} {w : qk_W} {nc ns : Nat} {Q : Option Value ⊕ Nat → qk_W → Nat → Nat → Prop}  (hb : wo w b0 6 fsb) (h8 : (st.map fun v => Value.category v).sum ≤ 8) (k : Ev d m_Tr_howManyGaps 0 [some (.ref b0), none, none] [] w nc ns (fun r w1 nc1 ns1 => match r with | .inl v => Ev (d + 1) m_Q_gaps 8 [o0, o1] (v.toList ++ st) w1 nc1 ns1 Q | .inr x => Q (.inr x) w1 nc1 ns1)) : Ev (d + 1) m_Q_gaps 5 [o0, o1] (.ref b0 :: st) w nc ns Q := by
  exact ev_call (M' := m_Tr_howManyGaps) (As := [.ref b0]) (st := st) d_Q_gaps_5 i_Tr_howManyGaps (fun h => absurd h (by decide +kernel)) cw_Q_125 rfl rfl ⟨hb.1, 6, _, _, hb.2, rfl, rfl⟩ rfl (Nat.le_of_ble_eq_true rfl) h8 k
theorem t_Q_gaps_8 {d : Nat} {o0 : Option Value} {o1 : Option Value} {y0 : Int32} {w : qk_W} {nc ns : Nat} {Q : Option Value ⊕ Nat → qk_W → Nat → Nat → Prop}   (hq : Q (.inl (some (.int y0))) w nc ns) : Ev d m_Q_gaps 8 [o0, o1] [.int y0] w nc ns Q := by
  exact ev_iret d_Q_gaps_8 rfl rfl hq
/-! Q_gap -/
theorem cw_Q_128 : qk_cw "QuakeLink" m_Tr_startOfGap.1 (.invokevirtual 128) := ⟨(lw_i4 _ (List.mem_of_getElem? (i := 140) rfl)), (lw_i4 _ (List.mem_of_getElem? (i := 141) rfl)), (lw_i4 _ (List.mem_of_getElem? (i := 142) rfl))⟩
theorem cw_Q_137 : qk_cw "QuakeLink" m_Tr_endOfGap.1 (.invokevirtual 137) := ⟨(lw_i4 _ (List.mem_of_getElem? (i := 145) rfl)), (lw_i2 _ (List.mem_of_getElem? (i := 143) rfl)), (lw_i2 _ (List.mem_of_getElem? (i := 144) rfl))⟩
theorem xw_Q_gap_22 : qk_xw "QuakeLink" 132 134 136 12 "java/lang/IndexOutOfBoundsException" "no such gap" := ⟨rfl, (lw_i2 _ (List.mem_of_getElem? (i := 164) rfl)), (lw_i2 _ (List.mem_of_getElem? (i := 165) rfl)), (lw_i1 _ (List.mem_of_getElem? (i := 12) rfl)), (lw_i4 _ (List.mem_of_getElem? (i := 144) rfl)), by decide +kernel, by decide +kernel⟩
theorem d_Q_gap_0 : decode m_Q_gap.2.1 0 = .ok (.aload_n 0, 1) := by decide +kernel
theorem d_Q_gap_1 : decode m_Q_gap.2.1 1 = .ok (.iload_n 1, 1) := by decide +kernel
theorem d_Q_gap_2 : decode m_Q_gap.2.1 2 = .ok (.invokevirtual 102, 3) := by decide +kernel
theorem d_Q_gap_5 : decode m_Q_gap.2.1 5 = .ok (.astore 4, 2) := by decide +kernel
theorem d_Q_gap_7 : decode m_Q_gap.2.1 7 = .ok (.aload 4, 2) := by decide +kernel
theorem d_Q_gap_9 : decode m_Q_gap.2.1 9 = .ok (.iload_n 2, 1) := by decide +kernel
theorem d_Q_gap_10 : decode m_Q_gap.2.1 10 = .ok (.invokevirtual 128, 3) := by decide +kernel
theorem d_Q_gap_13 : decode m_Q_gap.2.1 13 = .ok (.istore 5, 2) := by decide +kernel
theorem d_Q_gap_15 : decode m_Q_gap.2.1 15 = .ok (.iload 5, 2) := by decide +kernel
theorem d_Q_gap_17 : decode m_Q_gap.2.1 17 = .ok (.ldc 131, 2) := by decide +kernel
theorem d_Q_gap_19 : decode m_Q_gap.2.1 19 = .ok (.if_icmp .ne 13, 3) := by decide +kernel
theorem d_Q_gap_22 : decode m_Q_gap.2.1 22 = .ok (.new 132, 3) := by decide +kernel
theorem d_Q_gap_25 : decode m_Q_gap.2.1 25 = .ok (.dup, 1) := by decide +kernel
theorem d_Q_gap_26 : decode m_Q_gap.2.1 26 = .ok (.ldc 134, 2) := by decide +kernel
theorem d_Q_gap_28 : decode m_Q_gap.2.1 28 = .ok (.invokespecial 136, 3) := by decide +kernel
theorem d_Q_gap_31 : decode m_Q_gap.2.1 31 = .ok (.athrow, 1) := by decide +kernel
theorem d_Q_gap_32 : decode m_Q_gap.2.1 32 = .ok (.iload_n 3, 1) := by decide +kernel
theorem d_Q_gap_33 : decode m_Q_gap.2.1 33 = .ok (.ifCond .eq 13, 3) := by decide +kernel
theorem d_Q_gap_36 : decode m_Q_gap.2.1 36 = .ok (.aload 4, 2) := by decide +kernel
theorem d_Q_gap_38 : decode m_Q_gap.2.1 38 = .ok (.iload 5, 2) := by decide +kernel
theorem d_Q_gap_40 : decode m_Q_gap.2.1 40 = .ok (.invokevirtual 137, 3) := by decide +kernel
theorem d_Q_gap_43 : decode m_Q_gap.2.1 43 = .ok (.goto 5, 3) := by decide +kernel
theorem d_Q_gap_46 : decode m_Q_gap.2.1 46 = .ok (.iload 5, 2) := by decide +kernel
theorem d_Q_gap_48 : decode m_Q_gap.2.1 48 = .ok (.ireturn, 1) := by decide +kernel
theorem t_Q_gap_0 {d : Nat} {st : List Value} {a0 : Nat} {x1 : Int32} {o2 : Option Value} {o3 : Option Value} {o4 : Option Value} {o5 : Option Value} {fsb : List Value} {w : qk_W} {nc ns : Nat} {Q : Option Value ⊕ Nat → qk_W → Nat → Nat → Prop}  (hb : wo w a0 0 fsb) (h8 : (st.map fun v => Value.category v).sum ≤ 8) (k : Ev d m_Q_trackOf 0 [some (.ref a0), some (.int x1)] [] w nc ns (fun r w1 nc1 ns1 => match r with | .inl v => Ev (d + 1) m_Q_gap 5 [some (.ref a0), some (.int x1), o2, o3, o4, o5] (v.toList ++ st) w1 nc1 ns1 Q | .inr x => Q (.inr x) w1 nc1 ns1)) : Ev (d + 1) m_Q_gap 0 [some (.ref a0), some (.int x1), o2, o3, o4, o5] st w nc ns Q := by
  refine ev_aload_n d_Q_gap_0 rfl rfl ?_
  refine ev_iload_n d_Q_gap_1 rfl ?_
  exact ev_call (M' := m_Q_trackOf) (As := [.ref a0, .int x1]) (st := st) d_Q_gap_2 i_Q_trackOf (fun h => absurd h (by decide +kernel)) cw_Q_102 rfl rfl ⟨hb.1, 0, _, _, hb.2, rfl, rfl⟩ rfl (Nat.le_of_ble_eq_true rfl) h8 k
theorem t_Q_gap_5 {d : Nat} {st : List Value} {o0 : Option Value} {o1 : Option Value} {x2 : Int32} {o3 : Option Value} {o4 : Option Value} {o5 : Option Value} {b0 : Nat} {fsb : List Value} {w : qk_W} {nc ns : Nat} {Q : Option Value ⊕ Nat → qk_W → Nat → Nat → Prop}  (hc1 : qk_c2 [o0, o1, some (.int x2), o3, o4, o5] 4 = true) (hb : wo w b0 6 fsb) (h8 : (st.map fun v => Value.category v).sum ≤ 8) (k : Ev d m_Tr_startOfGap 0 [some (.ref b0), some (.int x2), none, none] [] w nc ns (fun r w1 nc1 ns1 => match r with | .inl v => Ev (d + 1) m_Q_gap 13 [o0, o1, some (.int x2), o3, some (.ref b0), o5] (v.toList ++ st) w1 nc1 ns1 Q | .inr x => Q (.inr x) w1 nc1 ns1)) : Ev (d + 1) m_Q_gap 5 [o0, o1, some (.int x2), o3, o4, o5] (.ref b0 :: st) w nc ns Q := by
  refine ev_astore d_Q_gap_5 rfl (by decide) hc1 ?_
  refine ev_aload d_Q_gap_7 rfl rfl ?_
  refine ev_iload_n d_Q_gap_9 rfl ?_
  exact ev_call (M' := m_Tr_startOfGap) (As := [.ref b0, .int x2]) (st := st) d_Q_gap_10 i_Tr_startOfGap (fun h => absurd h (by decide +kernel)) cw_Q_128 rfl rfl ⟨hb.1, 6, _, _, hb.2, rfl, rfl⟩ rfl (Nat.le_of_ble_eq_true rfl) h8 k
theorem t_Q_gap_13 {d : Nat} {st : List Value} {o0 : Option Value} {o1 : Option Value} {o2 : Option Value} {o3 : Option Value} {o4 : Option Value} {o5 : Option Value} {y0 : Int32} {w : qk_W} {nc ns : Nat} {Q : Option Value ⊕ Nat → qk_W → Nat → Nat → Prop}  (hc1 : qk_c2 [o0, o1, o2, o3, o4, o5] 5 = true) (kt : ¬ y0 = (32768 : Int32) → Ev d m_Q_gap 32 [o0, o1, o2, o3, o4, some (.int y0)] st w nc ns Q) (kf : y0 = (32768 : Int32) → Ev d m_Q_gap 22 [o0, o1, o2, o3, o4, some (.int y0)] st w nc ns Q) : Ev d m_Q_gap 13 [o0, o1, o2, o3, o4, o5] (.int y0 :: st) w nc ns Q := by
  refine ev_istore d_Q_gap_13 (by decide) hc1 ?_
  refine ev_iload d_Q_gap_15 rfl ?_
  refine ev_ldc 32768 d_Q_gap_17 lc_Q_131 ?_
  exact ev_icmp_ne 32 d_Q_gap_19 (by decide) kt kf
theorem t_Q_gap_22 {d : Nat} {o0 : Option Value} {o1 : Option Value} {o2 : Option Value} {o3 : Option Value} {o4 : Option Value} {o5 : Option Value} {w : qk_W} {nc ns : Nat} {Q : Option Value ⊕ Nat → qk_W → Nat → Nat → Prop}  (v : Nat) (hv : 16 ≤ v) (hn : w v = none) (hq : Q (.inr v) (qk_set w v (.inr (12, []))) (nc + 1) (ns + 6)) : Ev (d + 6) m_Q_gap 22 [o0, o1, o2, o3, o4, o5] [] w nc ns Q := by
  exact ev_throw v d_Q_gap_22 d_Q_gap_25 d_Q_gap_26 d_Q_gap_28 d_Q_gap_31 xw_Q_gap_22 rfl (by omega) hv hn hq
theorem t_Q_gap_32 {d : Nat} {st : List Value} {o0 : Option Value} {o1 : Option Value} {o2 : Option Value} {x3 : Int32} {o4 : Option Value} {o5 : Option Value} {w : qk_W} {nc ns : Nat} {Q : Option Value ⊕ Nat → qk_W → Nat → Nat → Prop}   (kt : x3 = 0 → Ev d m_Q_gap 46 [o0, o1, o2, some (.int x3), o4, o5] st w nc ns Q) (kf : ¬ (x3 = 0) → Ev d m_Q_gap 36 [o0, o1, o2, some (.int x3), o4, o5] st w nc ns Q) : Ev d m_Q_gap 32 [o0, o1, o2, some (.int x3), o4, o5] st w nc ns Q := by
  refine ev_iload_n d_Q_gap_32 rfl ?_
  exact ev_if_eq 46 d_Q_gap_33 (by decide) kt kf
theorem t_Q_gap_36 {d : Nat} {st : List Value} {o0 : Option Value} {o1 : Option Value} {o2 : Option Value} {o3 : Option Value} {a4 : Nat} {x5 : Int32} {fsb : List Value} {w : qk_W} {nc ns : Nat} {Q : Option Value ⊕ Nat → qk_W → Nat → Nat → Prop}  (hb : wo w a4 6 fsb) (h8 : (st.map fun v => Value.category v).sum ≤ 8) (k : Ev d m_Tr_endOfGap 0 [some (.ref a4), some (.int x5)] [] w nc ns (fun r w1 nc1 ns1 => match r with | .inl v => Ev (d + 1) m_Q_gap 43 [o0, o1, o2, o3, some (.ref a4), some (.int x5)] (v.toList ++ st) w1 nc1 ns1 Q | .inr x => Q (.inr x) w1 nc1 ns1)) : Ev (d + 1) m_Q_gap 36 [o0, o1, o2, o3, some (.ref a4), some (.int x5)] st w nc ns Q := by
  refine ev_aload d_Q_gap_36 rfl rfl ?_
  refine ev_iload d_Q_gap_38 rfl ?_
  exact ev_call (M' := m_Tr_endOfGap) (As := [.ref a4, .int x5]) (st := st) d_Q_gap_40 i_Tr_endOfGap (fun h => absurd h (by decide +kernel)) cw_Q_137 rfl rfl ⟨hb.1, 6, _, _, hb.2, rfl, rfl⟩ rfl (Nat.le_of_ble_eq_true rfl) h8 k
theorem t_Q_gap_43 {d : Nat} {o0 : Option Value} {o1 : Option Value} {o2 : Option Value} {o3 : Option Value} {o4 : Option Value} {o5 : Option Value} {y0 : Int32} {w : qk_W} {nc ns : Nat} {Q : Option Value ⊕ Nat → qk_W → Nat → Nat → Prop}   (hq : Q (.inl (some (.int y0))) w nc ns) : Ev d m_Q_gap 43 [o0, o1, o2, o3, o4, o5] [.int y0] w nc ns Q := by
  refine ev_goto 48 d_Q_gap_43 (by decide) ?_
  exact ev_iret d_Q_gap_48 rfl rfl hq
theorem t_Q_gap_46 {d : Nat} {o0 : Option Value} {o1 : Option Value} {o2 : Option Value} {o3 : Option Value} {o4 : Option Value} {x5 : Int32} {w : qk_W} {nc ns : Nat} {Q : Option Value ⊕ Nat → qk_W → Nat → Nat → Prop}   (hq : Q (.inl (some (.int x5))) w nc ns) : Ev d m_Q_gap 46 [o0, o1, o2, o3, o4, some (.int x5)] [] w nc ns Q := by
  refine ev_iload d_Q_gap_46 rfl ?_
  exact ev_iret d_Q_gap_48 rfl rfl hq
/-! Q_count -/
theorem cw_Q_140 : qk_cw "QuakeLink" m_Ch_oldest.1 (.invokevirtual 140) := ⟨(lw_i4 _ (List.mem_of_getElem? (i := 153) rfl)), (lw_i2 _ (List.mem_of_getElem? (i := 81) rfl)), (lw_i2 _ (List.mem_of_getElem? (i := 82) rfl))⟩
theorem cw_Q_143 : qk_cw "QuakeLink" m_Ch_inRing.1 (.invokevirtual 143) := ⟨(lw_i4 _ (List.mem_of_getElem? (i := 154) rfl)), (lw_i1 _ (List.mem_of_getElem? (i := 197) rfl)), (lw_i1 _ (List.mem_of_getElem? (i := 198) rfl))⟩
theorem fl_Q_146 : qk_fl "QuakeLink" 146 2 0 := ⟨_, rfl, by decide, rfl, (lw_i1 _ (List.mem_of_getElem? (i := 62) rfl))⟩
theorem fl_Q_149 : qk_fl "QuakeLink" 149 3 1 := ⟨_, rfl, by decide, rfl, (lw_i1 _ (List.mem_of_getElem? (i := 51) rfl))⟩
theorem fl_Q_150 : qk_fl "QuakeLink" 150 6 1 := ⟨_, rfl, by decide, rfl, (lw_i1 _ (List.mem_of_getElem? (i := 140) rfl))⟩
theorem xw_Q_count_99 : qk_xw "QuakeLink" 47 152 51 14 "java/lang/IllegalArgumentException" "what is not 0 .. 6" := ⟨rfl, (lw_i3 _ (List.mem_of_getElem? (i := 81) rfl)), (lw_i3 _ (List.mem_of_getElem? (i := 82) rfl)), (lw_i1 _ (List.mem_of_getElem? (i := 17) rfl)), (lw_i4 _ (List.mem_of_getElem? (i := 155) rfl)), by decide +kernel, by decide +kernel⟩
theorem d_Q_count_0 : decode m_Q_count.2.1 0 = .ok (.aload_n 0, 1) := by decide +kernel
theorem d_Q_count_1 : decode m_Q_count.2.1 1 = .ok (.iload_n 1, 1) := by decide +kernel
theorem d_Q_count_2 : decode m_Q_count.2.1 2 = .ok (.invokevirtual 30, 3) := by decide +kernel
theorem d_Q_count_5 : decode m_Q_count.2.1 5 = .ok (.astore_n 3, 1) := by decide +kernel
theorem d_Q_count_6 : decode m_Q_count.2.1 6 = .ok (.aload_n 0, 1) := by decide +kernel
theorem d_Q_count_7 : decode m_Q_count.2.1 7 = .ok (.iload_n 1, 1) := by decide +kernel
theorem d_Q_count_8 : decode m_Q_count.2.1 8 = .ok (.invokevirtual 102, 3) := by decide +kernel
theorem d_Q_count_11 : decode m_Q_count.2.1 11 = .ok (.astore 4, 2) := by decide +kernel
theorem d_Q_count_13 : decode m_Q_count.2.1 13 = .ok (.iload_n 2, 1) := by decide +kernel
theorem d_Q_count_14 : decode m_Q_count.2.1 14 = .ok (.tableswitch 85 0 6 #[42, 47, 52, 57, 62, 70, 79], 42) := by decide +kernel
theorem d_Q_count_56 : decode m_Q_count.2.1 56 = .ok (.aload_n 3, 1) := by decide +kernel
theorem d_Q_count_57 : decode m_Q_count.2.1 57 = .ok (.getfield 38, 3) := by decide +kernel
theorem d_Q_count_60 : decode m_Q_count.2.1 60 = .ok (.ireturn, 1) := by decide +kernel
theorem d_Q_count_61 : decode m_Q_count.2.1 61 = .ok (.aload_n 3, 1) := by decide +kernel
theorem d_Q_count_62 : decode m_Q_count.2.1 62 = .ok (.invokevirtual 140, 3) := by decide +kernel
theorem d_Q_count_65 : decode m_Q_count.2.1 65 = .ok (.ireturn, 1) := by decide +kernel
theorem d_Q_count_66 : decode m_Q_count.2.1 66 = .ok (.aload_n 3, 1) := by decide +kernel
theorem d_Q_count_67 : decode m_Q_count.2.1 67 = .ok (.invokevirtual 143, 3) := by decide +kernel
theorem d_Q_count_70 : decode m_Q_count.2.1 70 = .ok (.ireturn, 1) := by decide +kernel
theorem d_Q_count_71 : decode m_Q_count.2.1 71 = .ok (.aload_n 3, 1) := by decide +kernel
theorem d_Q_count_72 : decode m_Q_count.2.1 72 = .ok (.invokevirtual 59, 3) := by decide +kernel
theorem d_Q_count_75 : decode m_Q_count.2.1 75 = .ok (.ireturn, 1) := by decide +kernel
theorem d_Q_count_76 : decode m_Q_count.2.1 76 = .ok (.aload_n 3, 1) := by decide +kernel
theorem d_Q_count_77 : decode m_Q_count.2.1 77 = .ok (.getfield 146, 3) := by decide +kernel
theorem d_Q_count_80 : decode m_Q_count.2.1 80 = .ok (.getfield 149, 3) := by decide +kernel
theorem d_Q_count_83 : decode m_Q_count.2.1 83 = .ok (.ireturn, 1) := by decide +kernel
theorem d_Q_count_84 : decode m_Q_count.2.1 84 = .ok (.aload 4, 2) := by decide +kernel
theorem d_Q_count_86 : decode m_Q_count.2.1 86 = .ok (.getfield 106, 3) := by decide +kernel
theorem d_Q_count_89 : decode m_Q_count.2.1 89 = .ok (.getfield 149, 3) := by decide +kernel
theorem d_Q_count_92 : decode m_Q_count.2.1 92 = .ok (.ireturn, 1) := by decide +kernel
theorem d_Q_count_93 : decode m_Q_count.2.1 93 = .ok (.aload 4, 2) := by decide +kernel
theorem d_Q_count_95 : decode m_Q_count.2.1 95 = .ok (.getfield 150, 3) := by decide +kernel
theorem d_Q_count_98 : decode m_Q_count.2.1 98 = .ok (.ireturn, 1) := by decide +kernel
theorem d_Q_count_99 : decode m_Q_count.2.1 99 = .ok (.new 47, 3) := by decide +kernel
theorem d_Q_count_102 : decode m_Q_count.2.1 102 = .ok (.dup, 1) := by decide +kernel
theorem d_Q_count_103 : decode m_Q_count.2.1 103 = .ok (.ldc 152, 2) := by decide +kernel
theorem d_Q_count_105 : decode m_Q_count.2.1 105 = .ok (.invokespecial 51, 3) := by decide +kernel
theorem d_Q_count_108 : decode m_Q_count.2.1 108 = .ok (.athrow, 1) := by decide +kernel
theorem t_Q_count_0 {d : Nat} {st : List Value} {a0 : Nat} {x1 : Int32} {o2 : Option Value} {o3 : Option Value} {o4 : Option Value} {fsb : List Value} {w : qk_W} {nc ns : Nat} {Q : Option Value ⊕ Nat → qk_W → Nat → Nat → Prop}  (hb : wo w a0 0 fsb) (h8 : (st.map fun v => Value.category v).sum ≤ 8) (k : Ev d m_Q_channelOf 0 [some (.ref a0), some (.int x1)] [] w nc ns (fun r w1 nc1 ns1 => match r with | .inl v => Ev (d + 1) m_Q_count 5 [some (.ref a0), some (.int x1), o2, o3, o4] (v.toList ++ st) w1 nc1 ns1 Q | .inr x => Q (.inr x) w1 nc1 ns1)) : Ev (d + 1) m_Q_count 0 [some (.ref a0), some (.int x1), o2, o3, o4] st w nc ns Q := by
  refine ev_aload_n d_Q_count_0 rfl rfl ?_
  refine ev_iload_n d_Q_count_1 rfl ?_
  exact ev_call (M' := m_Q_channelOf) (As := [.ref a0, .int x1]) (st := st) d_Q_count_2 i_Q_channelOf (fun h => absurd h (by decide +kernel)) cw_Q_30 rfl rfl ⟨hb.1, 0, _, _, hb.2, rfl, rfl⟩ rfl (Nat.le_of_ble_eq_true rfl) h8 k
theorem t_Q_count_5 {d : Nat} {st : List Value} {a0 : Nat} {x1 : Int32} {o2 : Option Value} {o3 : Option Value} {o4 : Option Value} {s0 : Value} {fsb : List Value} {w : qk_W} {nc ns : Nat} {Q : Option Value ⊕ Nat → qk_W → Nat → Nat → Prop} (hs0 : qk_isr s0 = true) (hc1 : qk_c2 [some (.ref a0), some (.int x1), o2, o3, o4] 3 = true) (hb : wo w a0 0 fsb) (h8 : (st.map fun v => Value.category v).sum ≤ 8) (k : Ev d m_Q_trackOf 0 [some (.ref a0), some (.int x1)] [] w nc ns (fun r w1 nc1 ns1 => match r with | .inl v => Ev (d + 1) m_Q_count 11 [some (.ref a0), some (.int x1), o2, some s0, o4] (v.toList ++ st) w1 nc1 ns1 Q | .inr x => Q (.inr x) w1 nc1 ns1)) : Ev (d + 1) m_Q_count 5 [some (.ref a0), some (.int x1), o2, o3, o4] (s0 :: st) w nc ns Q := by
  refine ev_astore_n d_Q_count_5 hs0 (by decide) hc1 ?_
  refine ev_aload_n d_Q_count_6 rfl rfl ?_
  refine ev_iload_n d_Q_count_7 rfl ?_
  exact ev_call (M' := m_Q_trackOf) (As := [.ref a0, .int x1]) (st := st) d_Q_count_8 i_Q_trackOf (fun h => absurd h (by decide +kernel)) cw_Q_102 rfl rfl ⟨hb.1, 0, _, _, hb.2, rfl, rfl⟩ rfl (Nat.le_of_ble_eq_true rfl) h8 k
theorem t_Q_count_11_c0 {d : Nat} {st : List Value} {o0 : Option Value} {o1 : Option Value} {x2 : Int32} {o3 : Option Value} {o4 : Option Value} {s0 : Value} {w : qk_W} {nc ns : Nat} {Q : Option Value ⊕ Nat → qk_W → Nat → Nat → Prop} (hs0 : qk_isr s0 = true) (hc1 : qk_c2 [o0, o1, some (.int x2), o3, o4] 4 = true) (hx : x2 = 0) (k : Ev d m_Q_count 56 [o0, o1, some (.int x2), o3, some s0] st w nc ns Q) : Ev d m_Q_count 11 [o0, o1, some (.int x2), o3, o4] (s0 :: st) w nc ns Q := by
  refine ev_astore d_Q_count_11 hs0 (by decide) hc1 ?_
  refine ev_iload_n d_Q_count_13 rfl ?_
  exact ev_swIn 56 d_Q_count_14 (by rw [hx]; decide) (by rw [hx]; decide) (by rw [hx]; rfl) (by decide) k
theorem t_Q_count_11_c1 {d : Nat} {st : List Value} {o0 : Option Value} {o1 : Option Value} {x2 : Int32} {o3 : Option Value} {o4 : Option Value} {s0 : Value} {w : qk_W} {nc ns : Nat} {Q : Option Value ⊕ Nat → qk_W → Nat → Nat → Prop} (hs0 : qk_isr s0 = true) (hc1 : qk_c2 [o0, o1, some (.int x2), o3, o4] 4 = true) (hx : x2 = 1) (k : Ev d m_Q_count 61 [o0, o1, some (.int x2), o3, some s0] st w nc ns Q) : Ev d m_Q_count 11 [o0, o1, some (.int x2), o3, o4] (s0 :: st) w nc ns Q := by
  refine ev_astore d_Q_count_11 hs0 (by decide) hc1 ?_
  refine ev_iload_n d_Q_count_13 rfl ?_
  exact ev_swIn 61 d_Q_count_14 (by rw [hx]; decide) (by rw [hx]; decide) (by rw [hx]; rfl) (by decide) k
theorem t_Q_count_11_c2 {d : Nat} {st : List Value} {o0 : Option Value} {o1 : Option Value} {x2 : Int32} {o3 : Option Value} {o4 : Option Value} {s0 : Value} {w : qk_W} {nc ns : Nat} {Q : Option Value ⊕ Nat → qk_W → Nat → Nat → Prop} (hs0 : qk_isr s0 = true) (hc1 : qk_c2 [o0, o1, some (.int x2), o3, o4] 4 = true) (hx : x2 = 2) (k : Ev d m_Q_count 66 [o0, o1, some (.int x2), o3, some s0] st w nc ns Q) : Ev d m_Q_count 11 [o0, o1, some (.int x2), o3, o4] (s0 :: st) w nc ns Q := by
  refine ev_astore d_Q_count_11 hs0 (by decide) hc1 ?_
  refine ev_iload_n d_Q_count_13 rfl ?_
  exact ev_swIn 66 d_Q_count_14 (by rw [hx]; decide) (by rw [hx]; decide) (by rw [hx]; rfl) (by decide) k
theorem t_Q_count_11_c3 {d : Nat} {st : List Value} {o0 : Option Value} {o1 : Option Value} {x2 : Int32} {o3 : Option Value} {o4 : Option Value} {s0 : Value} {w : qk_W} {nc ns : Nat} {Q : Option Value ⊕ Nat → qk_W → Nat → Nat → Prop} (hs0 : qk_isr s0 = true) (hc1 : qk_c2 [o0, o1, some (.int x2), o3, o4] 4 = true) (hx : x2 = 3) (k : Ev d m_Q_count 71 [o0, o1, some (.int x2), o3, some s0] st w nc ns Q) : Ev d m_Q_count 11 [o0, o1, some (.int x2), o3, o4] (s0 :: st) w nc ns Q := by
  refine ev_astore d_Q_count_11 hs0 (by decide) hc1 ?_
  refine ev_iload_n d_Q_count_13 rfl ?_
  exact ev_swIn 71 d_Q_count_14 (by rw [hx]; decide) (by rw [hx]; decide) (by rw [hx]; rfl) (by decide) k
theorem t_Q_count_11_c4 {d : Nat} {st : List Value} {o0 : Option Value} {o1 : Option Value} {x2 : Int32} {o3 : Option Value} {o4 : Option Value} {s0 : Value} {w : qk_W} {nc ns : Nat} {Q : Option Value ⊕ Nat → qk_W → Nat → Nat → Prop} (hs0 : qk_isr s0 = true) (hc1 : qk_c2 [o0, o1, some (.int x2), o3, o4] 4 = true) (hx : x2 = 4) (k : Ev d m_Q_count 76 [o0, o1, some (.int x2), o3, some s0] st w nc ns Q) : Ev d m_Q_count 11 [o0, o1, some (.int x2), o3, o4] (s0 :: st) w nc ns Q := by
  refine ev_astore d_Q_count_11 hs0 (by decide) hc1 ?_
  refine ev_iload_n d_Q_count_13 rfl ?_
  exact ev_swIn 76 d_Q_count_14 (by rw [hx]; decide) (by rw [hx]; decide) (by rw [hx]; rfl) (by decide) k
theorem t_Q_count_11_c5 {d : Nat} {st : List Value} {o0 : Option Value} {o1 : Option Value} {x2 : Int32} {o3 : Option Value} {o4 : Option Value} {s0 : Value} {w : qk_W} {nc ns : Nat} {Q : Option Value ⊕ Nat → qk_W → Nat → Nat → Prop} (hs0 : qk_isr s0 = true) (hc1 : qk_c2 [o0, o1, some (.int x2), o3, o4] 4 = true) (hx : x2 = 5) (k : Ev d m_Q_count 84 [o0, o1, some (.int x2), o3, some s0] st w nc ns Q) : Ev d m_Q_count 11 [o0, o1, some (.int x2), o3, o4] (s0 :: st) w nc ns Q := by
  refine ev_astore d_Q_count_11 hs0 (by decide) hc1 ?_
  refine ev_iload_n d_Q_count_13 rfl ?_
  exact ev_swIn 84 d_Q_count_14 (by rw [hx]; decide) (by rw [hx]; decide) (by rw [hx]; rfl) (by decide) k
theorem t_Q_count_11_c6 {d : Nat} {st : List Value} {o0 : Option Value} {o1 : Option Value} {x2 : Int32} {o3 : Option Value} {o4 : Option Value} {s0 : Value} {w : qk_W} {nc ns : Nat} {Q : Option Value ⊕ Nat → qk_W → Nat → Nat → Prop} (hs0 : qk_isr s0 = true) (hc1 : qk_c2 [o0, o1, some (.int x2), o3, o4] 4 = true) (hx : x2 = 6) (k : Ev d m_Q_count 93 [o0, o1, some (.int x2), o3, some s0] st w nc ns Q) : Ev d m_Q_count 11 [o0, o1, some (.int x2), o3, o4] (s0 :: st) w nc ns Q := by
  refine ev_astore d_Q_count_11 hs0 (by decide) hc1 ?_
  refine ev_iload_n d_Q_count_13 rfl ?_
  exact ev_swIn 93 d_Q_count_14 (by rw [hx]; decide) (by rw [hx]; decide) (by rw [hx]; rfl) (by decide) k
theorem t_Q_count_11_df {d : Nat} {st : List Value} {o0 : Option Value} {o1 : Option Value} {x2 : Int32} {o3 : Option Value} {o4 : Option Value} {s0 : Value} {w : qk_W} {nc ns : Nat} {Q : Option Value ⊕ Nat → qk_W → Nat → Nat → Prop} (hs0 : qk_isr s0 = true) (hc1 : qk_c2 [o0, o1, some (.int x2), o3, o4] 4 = true) (hx : Int32.toInt x2 < 0 ∨ 6 < Int32.toInt x2) (k : Ev d m_Q_count 99 [o0, o1, some (.int x2), o3, some s0] st w nc ns Q) : Ev d m_Q_count 11 [o0, o1, some (.int x2), o3, o4] (s0 :: st) w nc ns Q := by
  refine ev_astore d_Q_count_11 hs0 (by decide) hc1 ?_
  refine ev_iload_n d_Q_count_13 rfl ?_
  exact ev_swOut 99 d_Q_count_14 hx (by decide) k
theorem t_Q_count_56 {d : Nat} {o0 : Option Value} {o1 : Option Value} {o2 : Option Value} {a3 : Nat} {o4 : Option Value} {fs2 : List Value} {n4 : Int32} {w : qk_W} {nc ns : Nat} {Q : Option Value ⊕ Nat → qk_W → Nat → Nat → Prop}  (hw1 : wo w a3 2 fs2) (hf3 : fs2[1]? = some (.int n4)) (hq : Q (.inl (some (.int n4))) w nc ns) : Ev d m_Q_count 56 [o0, o1, o2, some (.ref a3), o4] [] w nc ns Q := by
  refine ev_aload_n d_Q_count_56 rfl rfl ?_
  refine ev_getf d_Q_count_57 fl_Q_38 hw1.1 hw1.2 hf3 ?_
  exact ev_iret d_Q_count_60 rfl rfl hq
theorem t_Q_count_61 {d : Nat} {st : List Value} {o0 : Option Value} {o1 : Option Value} {o2 : Option Value} {a3 : Nat} {o4 : Option Value} {fsb : List Value} {w : qk_W} {nc ns : Nat} {Q : Option Value ⊕ Nat → qk_W → Nat → Nat → Prop}  (hb : wo w a3 2 fsb) (h8 : (st.map fun v => Value.category v).sum ≤ 8) (k : Ev d m_Ch_oldest 0 [some (.ref a3)] [] w nc ns (fun r w1 nc1 ns1 => match r with | .inl v => Ev (d + 1) m_Q_count 65 [o0, o1, o2, some (.ref a3), o4] (v.toList ++ st) w1 nc1 ns1 Q | .inr x => Q (.inr x) w1 nc1 ns1)) : Ev (d + 1) m_Q_count 61 [o0, o1, o2, some (.ref a3), o4] st w nc ns Q := by
  refine ev_aload_n d_Q_count_61 rfl rfl ?_
  exact ev_call (M' := m_Ch_oldest) (As := [.ref a3]) (st := st) d_Q_count_62 i_Ch_oldest (fun h => absurd h (by decide +kernel)) cw_Q_140 rfl rfl ⟨hb.1, 2, _, _, hb.2, rfl, rfl⟩ rfl (Nat.le_of_ble_eq_true rfl) h8 k
theorem t_Q_count_65 {d : Nat} {o0 : Option Value} {o1 : Option Value} {o2 : Option Value} {o3 : Option Value} {o4 : Option Value} {y0 : Int32} {w : qk_W} {nc ns : Nat} {Q : Option Value ⊕ Nat → qk_W → Nat → Nat → Prop}   (hq : Q (.inl (some (.int y0))) w nc ns) : Ev d m_Q_count 65 [o0, o1, o2, o3, o4] [.int y0] w nc ns Q := by
  exact ev_iret d_Q_count_65 rfl rfl hq
theorem t_Q_count_66 {d : Nat} {st : List Value} {o0 : Option Value} {o1 : Option Value} {o2 : Option Value} {a3 : Nat} {o4 : Option Value} {fsb : List Value} {w : qk_W} {nc ns : Nat} {Q : Option Value ⊕ Nat → qk_W → Nat → Nat → Prop}  (hb : wo w a3 2 fsb) (h8 : (st.map fun v => Value.category v).sum ≤ 8) (k : Ev d m_Ch_inRing 0 [some (.ref a3)] [] w nc ns (fun r w1 nc1 ns1 => match r with | .inl v => Ev (d + 1) m_Q_count 70 [o0, o1, o2, some (.ref a3), o4] (v.toList ++ st) w1 nc1 ns1 Q | .inr x => Q (.inr x) w1 nc1 ns1)) : Ev (d + 1) m_Q_count 66 [o0, o1, o2, some (.ref a3), o4] st w nc ns Q := by
  refine ev_aload_n d_Q_count_66 rfl rfl ?_
  exact ev_call (M' := m_Ch_inRing) (As := [.ref a3]) (st := st) d_Q_count_67 i_Ch_inRing (fun h => absurd h (by decide +kernel)) cw_Q_143 rfl rfl ⟨hb.1, 2, _, _, hb.2, rfl, rfl⟩ rfl (Nat.le_of_ble_eq_true rfl) h8 k
theorem t_Q_count_70 {d : Nat} {o0 : Option Value} {o1 : Option Value} {o2 : Option Value} {o3 : Option Value} {o4 : Option Value} {y0 : Int32} {w : qk_W} {nc ns : Nat} {Q : Option Value ⊕ Nat → qk_W → Nat → Nat → Prop}   (hq : Q (.inl (some (.int y0))) w nc ns) : Ev d m_Q_count 70 [o0, o1, o2, o3, o4] [.int y0] w nc ns Q := by
  exact ev_iret d_Q_count_70 rfl rfl hq
theorem t_Q_count_71 {d : Nat} {st : List Value} {o0 : Option Value} {o1 : Option Value} {o2 : Option Value} {a3 : Nat} {o4 : Option Value} {fsb : List Value} {w : qk_W} {nc ns : Nat} {Q : Option Value ⊕ Nat → qk_W → Nat → Nat → Prop}  (hb : wo w a3 2 fsb) (h8 : (st.map fun v => Value.category v).sum ≤ 8) (k : Ev d m_Ch_inOpen 0 [some (.ref a3)] [] w nc ns (fun r w1 nc1 ns1 => match r with | .inl v => Ev (d + 1) m_Q_count 75 [o0, o1, o2, some (.ref a3), o4] (v.toList ++ st) w1 nc1 ns1 Q | .inr x => Q (.inr x) w1 nc1 ns1)) : Ev (d + 1) m_Q_count 71 [o0, o1, o2, some (.ref a3), o4] st w nc ns Q := by
  refine ev_aload_n d_Q_count_71 rfl rfl ?_
  exact ev_call (M' := m_Ch_inOpen) (As := [.ref a3]) (st := st) d_Q_count_72 i_Ch_inOpen (fun h => absurd h (by decide +kernel)) cw_Q_59 rfl rfl ⟨hb.1, 2, _, _, hb.2, rfl, rfl⟩ rfl (Nat.le_of_ble_eq_true rfl) h8 k
theorem t_Q_count_75 {d : Nat} {o0 : Option Value} {o1 : Option Value} {o2 : Option Value} {o3 : Option Value} {o4 : Option Value} {y0 : Int32} {w : qk_W} {nc ns : Nat} {Q : Option Value ⊕ Nat → qk_W → Nat → Nat → Prop}   (hq : Q (.inl (some (.int y0))) w nc ns) : Ev d m_Q_count 75 [o0, o1, o2, o3, o4] [.int y0] w nc ns Q := by
  exact ev_iret d_Q_count_75 rfl rfl hq
theorem t_Q_count_76 {d : Nat} {o0 : Option Value} {o1 : Option Value} {o2 : Option Value} {a3 : Nat} {o4 : Option Value} {fs2 : List Value} {c4 : Nat} {fs6 : List Value} {n8 : Int32} {w : qk_W} {nc ns : Nat} {Q : Option Value ⊕ Nat → qk_W → Nat → Nat → Prop}  (hw1 : wo w a3 2 fs2) (hf3 : fs2[0]? = some (.ref c4)) (hw5 : wo w c4 3 fs6) (hf7 : fs6[1]? = some (.int n8)) (hq : Q (.inl (some (.int n8))) w nc ns) : Ev d m_Q_count 76 [o0, o1, o2, some (.ref a3), o4] [] w nc ns Q := by
  refine ev_aload_n d_Q_count_76 rfl rfl ?_
  refine ev_getf d_Q_count_77 fl_Q_146 hw1.1 hw1.2 hf3 ?_
  refine ev_getf d_Q_count_80 fl_Q_149 hw5.1 hw5.2 hf7 ?_
  exact ev_iret d_Q_count_83 rfl rfl hq
theorem t_Q_count_84 {d : Nat} {o0 : Option Value} {o1 : Option Value} {o2 : Option Value} {o3 : Option Value} {a4 : Nat} {fs2 : List Value} {c4 : Nat} {fs6 : List Value} {n8 : Int32} {w : qk_W} {nc ns : Nat} {Q : Option Value ⊕ Nat → qk_W → Nat → Nat → Prop}  (hw1 : wo w a4 6 fs2) (hf3 : fs2[0]? = some (.ref c4)) (hw5 : wo w c4 3 fs6) (hf7 : fs6[1]? = some (.int n8)) (hq : Q (.inl (some (.int n8))) w nc ns) : Ev d m_Q_count 84 [o0, o1, o2, o3, some (.ref a4)] [] w nc ns Q := by
  refine ev_aload d_Q_count_84 rfl rfl ?_
  refine ev_getf d_Q_count_86 fl_Q_106 hw1.1 hw1.2 hf3 ?_
  refine ev_getf d_Q_count_89 fl_Q_149 hw5.1 hw5.2 hf7 ?_
  exact ev_iret d_Q_count_92 rfl rfl hq
theorem t_Q_count_93 {d : Nat} {o0 : Option Value} {o1 : Option Value} {o2 : Option Value} {o3 : Option Value} {a4 : Nat} {fs2 : List Value} {n4 : Int32} {w : qk_W} {nc ns : Nat} {Q : Option Value ⊕ Nat → qk_W → Nat → Nat → Prop}  (hw1 : wo w a4 6 fs2) (hf3 : fs2[1]? = some (.int n4)) (hq : Q (.inl (some (.int n4))) w nc ns) : Ev d m_Q_count 93 [o0, o1, o2, o3, some (.ref a4)] [] w nc ns Q := by
  refine ev_aload d_Q_count_93 rfl rfl ?_
  refine ev_getf d_Q_count_95 fl_Q_150 hw1.1 hw1.2 hf3 ?_
  exact ev_iret d_Q_count_98 rfl rfl hq
theorem t_Q_count_99 {d : Nat} {o0 : Option Value} {o1 : Option Value} {o2 : Option Value} {o3 : Option Value} {o4 : Option Value} {w : qk_W} {nc ns : Nat} {Q : Option Value ⊕ Nat → qk_W → Nat → Nat → Prop}  (v : Nat) (hv : 16 ≤ v) (hn : w v = none) (hq : Q (.inr v) (qk_set w v (.inr (14, []))) (nc + 1) (ns + 6)) : Ev (d + 6) m_Q_count 99 [o0, o1, o2, o3, o4] [] w nc ns Q := by
  exact ev_throw v d_Q_count_99 d_Q_count_102 d_Q_count_103 d_Q_count_105 d_Q_count_108 xw_Q_count_99 rfl (by omega) hv hn hq
/-! Q_total -/
theorem cw_Q_154 : qk_cw "QuakeLink" m_St_howManyWait.1 (.invokevirtual 154) := ⟨(lw_i4 _ (List.mem_of_getElem? (i := 163) rfl)), (lw_i4 _ (List.mem_of_getElem? (i := 164) rfl)), (lw_i4 _ (List.mem_of_getElem? (i := 165) rfl))⟩
theorem fl_Q_157 : qk_fl "QuakeLink" 157 4 1 := ⟨_, rfl, by decide, rfl, (lw_i1 _ (List.mem_of_getElem? (i := 114) rfl))⟩
theorem fl_Q_160 : qk_fl "QuakeLink" 160 5 1 := ⟨_, rfl, by decide, rfl, (lw_i1 _ (List.mem_of_getElem? (i := 152) rfl))⟩
theorem fl_Q_163 : qk_fl "QuakeLink" 163 5 2 := ⟨_, rfl, by decide, rfl, (lw_i1 _ (List.mem_of_getElem? (i := 154) rfl))⟩
theorem fl_Q_166 : qk_fl "QuakeLink" 166 1 2 := ⟨_, rfl, by decide, rfl, (lw_i1 _ (List.mem_of_getElem? (i := 90) rfl))⟩
theorem xw_Q_total_76 : qk_xw "QuakeLink" 47 169 51 14 "java/lang/IllegalArgumentException" "what is not 0 .. 4" := ⟨rfl, (lw_i3 _ (List.mem_of_getElem? (i := 81) rfl)), (lw_i3 _ (List.mem_of_getElem? (i := 82) rfl)), (lw_i1 _ (List.mem_of_getElem? (i := 17) rfl)), (lw_i4 _ (List.mem_of_getElem? (i := 167) rfl)), by decide +kernel, by decide +kernel⟩
theorem d_Q_total_0 : decode m_Q_total.2.1 0 = .ok (.iload_n 1, 1) := by decide +kernel
theorem d_Q_total_1 : decode m_Q_total.2.1 1 = .ok (.tableswitch 75 0 4 #[35, 43, 51, 59, 67], 35) := by decide +kernel
theorem d_Q_total_36 : decode m_Q_total.2.1 36 = .ok (.aload_n 0, 1) := by decide +kernel
theorem d_Q_total_37 : decode m_Q_total.2.1 37 = .ok (.getfield 10, 3) := by decide +kernel
theorem d_Q_total_40 : decode m_Q_total.2.1 40 = .ok (.invokevirtual 154, 3) := by decide +kernel
theorem d_Q_total_43 : decode m_Q_total.2.1 43 = .ok (.ireturn, 1) := by decide +kernel
theorem d_Q_total_44 : decode m_Q_total.2.1 44 = .ok (.aload_n 0, 1) := by decide +kernel
theorem d_Q_total_45 : decode m_Q_total.2.1 45 = .ok (.getfield 19, 3) := by decide +kernel
theorem d_Q_total_48 : decode m_Q_total.2.1 48 = .ok (.getfield 157, 3) := by decide +kernel
theorem d_Q_total_51 : decode m_Q_total.2.1 51 = .ok (.ireturn, 1) := by decide +kernel
theorem d_Q_total_52 : decode m_Q_total.2.1 52 = .ok (.aload_n 0, 1) := by decide +kernel
theorem d_Q_total_53 : decode m_Q_total.2.1 53 = .ok (.getfield 26, 3) := by decide +kernel
theorem d_Q_total_56 : decode m_Q_total.2.1 56 = .ok (.getfield 160, 3) := by decide +kernel
theorem d_Q_total_59 : decode m_Q_total.2.1 59 = .ok (.ireturn, 1) := by decide +kernel
theorem d_Q_total_60 : decode m_Q_total.2.1 60 = .ok (.aload_n 0, 1) := by decide +kernel
theorem d_Q_total_61 : decode m_Q_total.2.1 61 = .ok (.getfield 26, 3) := by decide +kernel
theorem d_Q_total_64 : decode m_Q_total.2.1 64 = .ok (.getfield 163, 3) := by decide +kernel
theorem d_Q_total_67 : decode m_Q_total.2.1 67 = .ok (.ireturn, 1) := by decide +kernel
theorem d_Q_total_68 : decode m_Q_total.2.1 68 = .ok (.aload_n 0, 1) := by decide +kernel
theorem d_Q_total_69 : decode m_Q_total.2.1 69 = .ok (.getfield 10, 3) := by decide +kernel
theorem d_Q_total_72 : decode m_Q_total.2.1 72 = .ok (.getfield 166, 3) := by decide +kernel
theorem d_Q_total_75 : decode m_Q_total.2.1 75 = .ok (.ireturn, 1) := by decide +kernel
theorem d_Q_total_76 : decode m_Q_total.2.1 76 = .ok (.new 47, 3) := by decide +kernel
theorem d_Q_total_79 : decode m_Q_total.2.1 79 = .ok (.dup, 1) := by decide +kernel
theorem d_Q_total_80 : decode m_Q_total.2.1 80 = .ok (.ldc 169, 2) := by decide +kernel
theorem d_Q_total_82 : decode m_Q_total.2.1 82 = .ok (.invokespecial 51, 3) := by decide +kernel
theorem d_Q_total_85 : decode m_Q_total.2.1 85 = .ok (.athrow, 1) := by decide +kernel
theorem t_Q_total_0_c0 {d : Nat} {st : List Value} {o0 : Option Value} {x1 : Int32} {w : qk_W} {nc ns : Nat} {Q : Option Value ⊕ Nat → qk_W → Nat → Nat → Prop}  (hx : x1 = 0) (k : Ev d m_Q_total 36 [o0, some (.int x1)] st w nc ns Q) : Ev d m_Q_total 0 [o0, some (.int x1)] st w nc ns Q := by
  refine ev_iload_n d_Q_total_0 rfl ?_
  exact ev_swIn 36 d_Q_total_1 (by rw [hx]; decide) (by rw [hx]; decide) (by rw [hx]; rfl) (by decide) k
theorem t_Q_total_0_c1 {d : Nat} {st : List Value} {o0 : Option Value} {x1 : Int32} {w : qk_W} {nc ns : Nat} {Q : Option Value ⊕ Nat → qk_W → Nat → Nat → Prop}  (hx : x1 = 1) (k : Ev d m_Q_total 44 [o0, some (.int x1)] st w nc ns Q) : Ev d m_Q_total 0 [o0, some (.int x1)] st w nc ns Q := by
  refine ev_iload_n d_Q_total_0 rfl ?_
  exact ev_swIn 44 d_Q_total_1 (by rw [hx]; decide) (by rw [hx]; decide) (by rw [hx]; rfl) (by decide) k
theorem t_Q_total_0_c2 {d : Nat} {st : List Value} {o0 : Option Value} {x1 : Int32} {w : qk_W} {nc ns : Nat} {Q : Option Value ⊕ Nat → qk_W → Nat → Nat → Prop}  (hx : x1 = 2) (k : Ev d m_Q_total 52 [o0, some (.int x1)] st w nc ns Q) : Ev d m_Q_total 0 [o0, some (.int x1)] st w nc ns Q := by
  refine ev_iload_n d_Q_total_0 rfl ?_
  exact ev_swIn 52 d_Q_total_1 (by rw [hx]; decide) (by rw [hx]; decide) (by rw [hx]; rfl) (by decide) k
theorem t_Q_total_0_c3 {d : Nat} {st : List Value} {o0 : Option Value} {x1 : Int32} {w : qk_W} {nc ns : Nat} {Q : Option Value ⊕ Nat → qk_W → Nat → Nat → Prop}  (hx : x1 = 3) (k : Ev d m_Q_total 60 [o0, some (.int x1)] st w nc ns Q) : Ev d m_Q_total 0 [o0, some (.int x1)] st w nc ns Q := by
  refine ev_iload_n d_Q_total_0 rfl ?_
  exact ev_swIn 60 d_Q_total_1 (by rw [hx]; decide) (by rw [hx]; decide) (by rw [hx]; rfl) (by decide) k
theorem t_Q_total_0_c4 {d : Nat} {st : List Value} {o0 : Option Value} {x1 : Int32} {w : qk_W} {nc ns : Nat} {Q : Option Value ⊕ Nat → qk_W → Nat → Nat → Prop}  (hx : x1 = 4) (k : Ev d m_Q_total 68 [o0, some (.int x1)] st w nc ns Q) : Ev d m_Q_total 0 [o0, some (.int x1)] st w nc ns Q := by
  refine ev_iload_n d_Q_total_0 rfl ?_
  exact ev_swIn 68 d_Q_total_1 (by rw [hx]; decide) (by rw [hx]; decide) (by rw [hx]; rfl) (by decide) k
theorem t_Q_total_0_df {d : Nat} {st : List Value} {o0 : Option Value} {x1 : Int32} {w : qk_W} {nc ns : Nat} {Q : Option Value ⊕ Nat → qk_W → Nat → Nat → Prop}  (hx : Int32.toInt x1 < 0 ∨ 4 < Int32.toInt x1) (k : Ev d m_Q_total 76 [o0, some (.int x1)] st w nc ns Q) : Ev d m_Q_total 0 [o0, some (.int x1)] st w nc ns Q := by
  refine ev_iload_n d_Q_total_0 rfl ?_
  exact ev_swOut 76 d_Q_total_1 hx (by decide) k
theorem t_Q_total_36 {d : Nat} {st : List Value} {a0 : Nat} {o1 : Option Value} {fs2 : List Value} {c4 : Nat} {fsb : List Value} {w : qk_W} {nc ns : Nat} {Q : Option Value ⊕ Nat → qk_W → Nat → Nat → Prop}  (hw1 : wo w a0 0 fs2) (hf3 : fs2[0]? = some (.ref c4)) (hb : wo w c4 1 fsb) (h8 : (st.map fun v => Value.category v).sum ≤ 8) (k : Ev d m_St_howManyWait 0 [some (.ref c4), none, none] [] w nc ns (fun r w1 nc1 ns1 => match r with | .inl v => Ev (d + 1) m_Q_total 43 [some (.ref a0), o1] (v.toList ++ st) w1 nc1 ns1 Q | .inr x => Q (.inr x) w1 nc1 ns1)) : Ev (d + 1) m_Q_total 36 [some (.ref a0), o1] st w nc ns Q := by
  refine ev_aload_n d_Q_total_36 rfl rfl ?_
  refine ev_getf d_Q_total_37 fl_Q_10 hw1.1 hw1.2 hf3 ?_
  exact ev_call (M' := m_St_howManyWait) (As := [.ref c4]) (st := st) d_Q_total_40 i_St_howManyWait (fun h => absurd h (by decide +kernel)) cw_Q_154 rfl rfl ⟨hb.1, 1, _, _, hb.2, rfl, rfl⟩ rfl (Nat.le_of_ble_eq_true rfl) h8 k
theorem t_Q_total_43 {d : Nat} {o0 : Option Value} {o1 : Option Value} {y0 : Int32} {w : qk_W} {nc ns : Nat} {Q : Option Value ⊕ Nat → qk_W → Nat → Nat → Prop}   (hq : Q (.inl (some (.int y0))) w nc ns) : Ev d m_Q_total 43 [o0, o1] [.int y0] w nc ns Q := by
  exact ev_iret d_Q_total_43 rfl rfl hq
theorem t_Q_total_44 {d : Nat} {a0 : Nat} {o1 : Option Value} {fs2 : List Value} {c4 : Nat} {fs6 : List Value} {n8 : Int32} {w : qk_W} {nc ns : Nat} {Q : Option Value ⊕ Nat → qk_W → Nat → Nat → Prop}  (hw1 : wo w a0 0 fs2) (hf3 : fs2[1]? = some (.ref c4)) (hw5 : wo w c4 4 fs6) (hf7 : fs6[1]? = some (.int n8)) (hq : Q (.inl (some (.int n8))) w nc ns) : Ev d m_Q_total 44 [some (.ref a0), o1] [] w nc ns Q := by
  refine ev_aload_n d_Q_total_44 rfl rfl ?_
  refine ev_getf d_Q_total_45 fl_Q_19 hw1.1 hw1.2 hf3 ?_
  refine ev_getf d_Q_total_48 fl_Q_157 hw5.1 hw5.2 hf7 ?_
  exact ev_iret d_Q_total_51 rfl rfl hq
theorem t_Q_total_52 {d : Nat} {a0 : Nat} {o1 : Option Value} {fs2 : List Value} {c4 : Nat} {fs6 : List Value} {n8 : Int32} {w : qk_W} {nc ns : Nat} {Q : Option Value ⊕ Nat → qk_W → Nat → Nat → Prop}  (hw1 : wo w a0 0 fs2) (hf3 : fs2[2]? = some (.ref c4)) (hw5 : wo w c4 5 fs6) (hf7 : fs6[1]? = some (.int n8)) (hq : Q (.inl (some (.int n8))) w nc ns) : Ev d m_Q_total 52 [some (.ref a0), o1] [] w nc ns Q := by
  refine ev_aload_n d_Q_total_52 rfl rfl ?_
  refine ev_getf d_Q_total_53 fl_Q_26 hw1.1 hw1.2 hf3 ?_
  refine ev_getf d_Q_total_56 fl_Q_160 hw5.1 hw5.2 hf7 ?_
  exact ev_iret d_Q_total_59 rfl rfl hq
theorem t_Q_total_60 {d : Nat} {a0 : Nat} {o1 : Option Value} {fs2 : List Value} {c4 : Nat} {fs6 : List Value} {n8 : Int32} {w : qk_W} {nc ns : Nat} {Q : Option Value ⊕ Nat → qk_W → Nat → Nat → Prop}  (hw1 : wo w a0 0 fs2) (hf3 : fs2[2]? = some (.ref c4)) (hw5 : wo w c4 5 fs6) (hf7 : fs6[2]? = some (.int n8)) (hq : Q (.inl (some (.int n8))) w nc ns) : Ev d m_Q_total 60 [some (.ref a0), o1] [] w nc ns Q := by
  refine ev_aload_n d_Q_total_60 rfl rfl ?_
  refine ev_getf d_Q_total_61 fl_Q_26 hw1.1 hw1.2 hf3 ?_
  refine ev_getf d_Q_total_64 fl_Q_163 hw5.1 hw5.2 hf7 ?_
  exact ev_iret d_Q_total_67 rfl rfl hq
theorem t_Q_total_68 {d : Nat} {a0 : Nat} {o1 : Option Value} {fs2 : List Value} {c4 : Nat} {fs6 : List Value} {n8 : Int32} {w : qk_W} {nc ns : Nat} {Q : Option Value ⊕ Nat → qk_W → Nat → Nat → Prop}  (hw1 : wo w a0 0 fs2) (hf3 : fs2[0]? = some (.ref c4)) (hw5 : wo w c4 1 fs6) (hf7 : fs6[2]? = some (.int n8)) (hq : Q (.inl (some (.int n8))) w nc ns) : Ev d m_Q_total 68 [some (.ref a0), o1] [] w nc ns Q := by
  refine ev_aload_n d_Q_total_68 rfl rfl ?_
  refine ev_getf d_Q_total_69 fl_Q_10 hw1.1 hw1.2 hf3 ?_
  refine ev_getf d_Q_total_72 fl_Q_166 hw5.1 hw5.2 hf7 ?_
  exact ev_iret d_Q_total_75 rfl rfl hq
theorem t_Q_total_76 {d : Nat} {o0 : Option Value} {o1 : Option Value} {w : qk_W} {nc ns : Nat} {Q : Option Value ⊕ Nat → qk_W → Nat → Nat → Prop}  (v : Nat) (hv : 16 ≤ v) (hn : w v = none) (hq : Q (.inr v) (qk_set w v (.inr (14, []))) (nc + 1) (ns + 6)) : Ev (d + 6) m_Q_total 76 [o0, o1] [] w nc ns Q := by
  exact ev_throw v d_Q_total_76 d_Q_total_79 d_Q_total_80 d_Q_total_82 d_Q_total_85 xw_Q_total_76 rfl (by omega) hv hn hq
