/-! Ch_init -/
theorem ob_Ch_3 : Cond.methodLink "QuakeLink$Channel" 3 Lib.objectInit ∈ lw_tbl := (lw_i1 _ (List.mem_of_getElem? (i := 42) rfl))
theorem nl_Ch_9 : qk_nl "QuakeLink$Channel" 9 3 [.null, .int 0] := ⟨_, rfl, by decide, (lw_i1 _ (List.mem_of_getElem? (i := 43) rfl)), rfl, rfl⟩
theorem cw_Ch_11 : qk_cw "QuakeLink$Channel" m_Ns_init.1 (.invokespecial 11) := ⟨rfl, Or.inr ⟨"QuakeLink", (lw_i1 _ (List.mem_of_getElem? (i := 45) rfl))⟩, (lw_i1 _ (List.mem_of_getElem? (i := 46) rfl))⟩
theorem fl_Ch_12 : qk_fl "QuakeLink$Channel" 12 2 0 := ⟨_, rfl, by decide, rfl, (lw_i1 _ (List.mem_of_getElem? (i := 60) rfl))⟩
theorem al_Ch_18 : Cond.classLink "QuakeLink$Channel" 18 "QuakeLink$Packet" ∈ lw_tbl ∧ Cond.arrayOver (.object "QuakeLink$Packet") ∈ lw_tbl := ⟨(lw_i1 _ (List.mem_of_getElem? (i := 58) rfl)), (lw_i1 _ (List.mem_of_getElem? (i := 59) rfl))⟩
theorem fl_Ch_20 : qk_fl "QuakeLink$Channel" 20 2 3 := ⟨_, rfl, by decide, rfl, (lw_i1 _ (List.mem_of_getElem? (i := 66) rfl))⟩
theorem fl_Ch_24 : qk_fl "QuakeLink$Channel" 24 2 2 := ⟨_, rfl, by decide, rfl, (lw_i1 _ (List.mem_of_getElem? (i := 65) rfl))⟩
theorem d_Ch_init_0 : decode m_Ch_init.2.1 0 = .ok (.aload_n 0, 1) := by decide +kernel
theorem d_Ch_init_1 : decode m_Ch_init.2.1 1 = .ok (.invokespecial 3, 3) := by decide +kernel
theorem d_Ch_init_4 : decode m_Ch_init.2.1 4 = .ok (.aload_n 0, 1) := by decide +kernel
theorem d_Ch_init_5 : decode m_Ch_init.2.1 5 = .ok (.new 9, 3) := by decide +kernel
theorem d_Ch_init_8 : decode m_Ch_init.2.1 8 = .ok (.dup, 1) := by decide +kernel
theorem d_Ch_init_9 : decode m_Ch_init.2.1 9 = .ok (.invokespecial 11, 3) := by decide +kernel
theorem d_Ch_init_12 : decode m_Ch_init.2.1 12 = .ok (.putfield 12, 3) := by decide +kernel
theorem d_Ch_init_15 : decode m_Ch_init.2.1 15 = .ok (.aload_n 0, 1) := by decide +kernel
theorem d_Ch_init_16 : decode m_Ch_init.2.1 16 = .ok (.bipush 33, 2) := by decide +kernel
theorem d_Ch_init_18 : decode m_Ch_init.2.1 18 = .ok (.anewarray 18, 3) := by decide +kernel
theorem d_Ch_init_21 : decode m_Ch_init.2.1 21 = .ok (.putfield 20, 3) := by decide +kernel
theorem d_Ch_init_24 : decode m_Ch_init.2.1 24 = .ok (.aload_n 0, 1) := by decide +kernel
theorem d_Ch_init_25 : decode m_Ch_init.2.1 25 = .ok (.iload_n 1, 1) := by decide +kernel
theorem d_Ch_init_26 : decode m_Ch_init.2.1 26 = .ok (.putfield 24, 3) := by decide +kernel
theorem d_Ch_init_29 : decode m_Ch_init.2.1 29 = .ok (.return_, 1) := by decide +kernel
theorem t_Ch_init_0 {d : Nat} {st : List Value} {a0 : Nat} {o1 : Option Value} {w : qk_W} {nc ns : Nat} {Q : Option Value ⊕ Nat → qk_W → Nat → Nat → Prop}  (h8 : (st.map fun v => Value.category v).sum ≤ 8) (k : Ev (d + 1) m_Ch_init 4 [some (.ref a0), o1] st w nc ns Q) : Ev (d + 1) m_Ch_init 0 [some (.ref a0), o1] st w nc ns Q := by
  refine ev_aload_n d_Ch_init_0 rfl rfl ?_
  exact ev_obj d_Ch_init_1 ob_Ch_3 ob_inst ob_code (by omega) h8 k
theorem t_Ch_init_4 {d : Nat} {st : List Value} {v0 : Value} {o1 : Option Value} {w : qk_W} {nc ns : Nat} {Q : Option Value ⊕ Nat → qk_W → Nat → Nat → Prop} (hv0 : qk_isr v0 = true) (v : Nat) (hv : 16 ≤ v) (hn : w v = none) (k : Ev d m_Ch_init 8 [some v0, o1] (.ref v :: v0 :: st) (qk_set w v (.inr (3, [.null, .int 0]))) (nc + 1) (ns + 2) Q) : Ev d m_Ch_init 4 [some v0, o1] st w nc ns Q := by
  refine ev_aload_n d_Ch_init_4 rfl hv0 ?_
  exact ev_new v d_Ch_init_5 nl_Ch_9 hv hn k
theorem t_Ch_init_8 {d : Nat} {st : List Value} {o0 : Option Value} {o1 : Option Value} {b0 : Nat} {w : qk_W} {nc ns : Nat} {Q : Option Value ⊕ Nat → qk_W → Nat → Nat → Prop}  (h8 : ((.ref b0 :: st).map fun v => Value.category v).sum ≤ 8) (k : Ev d m_Ns_init 0 [some (.ref b0)] [] w nc ns (fun r w1 nc1 ns1 => match r with | .inl v => Ev (d + 1) m_Ch_init 12 [o0, o1] (v.toList ++ (.ref b0 :: st)) w1 nc1 ns1 Q | .inr x => Q (.inr x) w1 nc1 ns1)) : Ev (d + 1) m_Ch_init 8 [o0, o1] (.ref b0 :: st) w nc ns Q := by
  refine ev_dup d_Ch_init_8 rfl ?_
  exact ev_call (M' := m_Ns_init) (As := [.ref b0]) (st := (.ref b0 :: st)) d_Ch_init_9 i_Ns_init ii_Ns_init cw_Ch_11 rfl rfl trivial rfl (Nat.le_of_ble_eq_true rfl) h8 k
theorem t_Ch_init_12 {d : Nat} {st : List Value} {o0 : Option Value} {o1 : Option Value} {s0 : Value} {b1 : Nat} {fs2 : List Value} {w : qk_W} {nc ns : Nat} {Q : Option Value ⊕ Nat → qk_W → Nat → Nat → Prop} (hs0 : qk_isr s0 = true) (hw1 : wo w b1 2 fs2) (hk : 0 < fs2.length) (hz : qk_fit (qk_fty 2 0) s0 = true) (k : Ev d m_Ch_init 15 [o0, o1] st (qk_set w b1 (.inr (2, fs2.set 0 (s0)))) nc ns Q) : Ev d m_Ch_init 12 [o0, o1] (s0 :: .ref b1 :: st) w nc ns Q := by
  exact ev_putF d_Ch_init_12 fl_Ch_12 rfl rfl rfl hw1.1 hw1.2 hk hz k
theorem t_Ch_init_15 {d : Nat} {st : List Value} {v0 : Value} {o1 : Option Value} {w : qk_W} {nc ns : Nat} {Q : Option Value ⊕ Nat → qk_W → Nat → Nat → Prop} (hv0 : qk_isr v0 = true) (v : Nat) (hv : 16 ≤ v) (hn : w v = none) (k : Ev d m_Ch_init 21 [some v0, o1] (.ref v :: v0 :: st) (qk_set w v (.inl (.object "QuakeLink$Packet", 33, .inr (.inr (.inr (.inr (fun _ => none))))))) (nc + 1) (ns + 33) Q) : Ev d m_Ch_init 15 [some v0, o1] st w nc ns Q := by
  refine ev_aload_n d_Ch_init_15 rfl hv0 ?_
  refine ev_bipush 33 d_Ch_init_16 (by decide) ?_
  exact ev_anew (n0 := 0) v d_Ch_init_18 al_Ch_18.1 al_Ch_18.2 (by decide) (by decide) (by decide) (by decide) hv hn k
theorem t_Ch_init_21 {d : Nat} {st : List Value} {o0 : Option Value} {o1 : Option Value} {s0 : Value} {b1 : Nat} {fs2 : List Value} {w : qk_W} {nc ns : Nat} {Q : Option Value ⊕ Nat → qk_W → Nat → Nat → Prop} (hs0 : qk_isr s0 = true) (hw1 : wo w b1 2 fs2) (hk : 3 < fs2.length) (hz : qk_fit (qk_fty 2 3) s0 = true) (k : Ev d m_Ch_init 24 [o0, o1] st (qk_set w b1 (.inr (2, fs2.set 3 (s0)))) nc ns Q) : Ev d m_Ch_init 21 [o0, o1] (s0 :: .ref b1 :: st) w nc ns Q := by
  exact ev_putF d_Ch_init_21 fl_Ch_20 rfl rfl rfl hw1.1 hw1.2 hk hz k
theorem t_Ch_init_24 {d : Nat} {st : List Value} {a0 : Nat} {x1 : Int32} {fs2 : List Value} {w : qk_W} {nc ns : Nat} {Q : Option Value ⊕ Nat → qk_W → Nat → Nat → Prop}  (hw1 : wo w a0 2 fs2) (hk : 2 < fs2.length) (k : Ev d m_Ch_init 29 [some (.ref a0), some (.int x1)] st (qk_set w a0 (.inr (2, fs2.set 2 (.int x1)))) nc ns Q) : Ev d m_Ch_init 24 [some (.ref a0), some (.int x1)] st w nc ns Q := by
  refine ev_aload_n d_Ch_init_24 rfl rfl ?_
  refine ev_iload_n d_Ch_init_25 rfl ?_
  exact ev_putF d_Ch_init_26 fl_Ch_24 rfl rfl rfl hw1.1 hw1.2 hk (qk_fitI _) k
theorem t_Ch_init_29 {d : Nat} {o0 : Option Value} {o1 : Option Value} {w : qk_W} {nc ns : Nat} {Q : Option Value ⊕ Nat → qk_W → Nat → Nat → Prop}   (hq : Q (.inl none) w nc ns) : Ev d m_Ch_init 29 [o0, o1] [] w nc ns Q := by
  exact ev_vret d_Ch_init_29 rfl hq
/-! Ch_howManyWait -/
theorem fl_Ch_34 : qk_fl "QuakeLink$Channel" 34 2 4 := ⟨_, rfl, by decide, rfl, (lw_i1 _ (List.mem_of_getElem? (i := 67) rfl))⟩
theorem cw_Ch_73 : qk_cw "QuakeLink$Channel" m_Ch_firstThatWaits.1 (.invokevirtual 73) := ⟨(lw_i1 _ (List.mem_of_getElem? (i := 188) rfl)), (lw_i1 _ (List.mem_of_getElem? (i := 190) rfl)), (lw_i0 _ (List.mem_of_getElem? (i := 1) rfl))⟩
theorem d_Ch_howManyWait_0 : decode m_Ch_howManyWait.2.1 0 = .ok (.aload_n 0, 1) := by decide +kernel
theorem d_Ch_howManyWait_1 : decode m_Ch_howManyWait.2.1 1 = .ok (.getfield 34, 3) := by decide +kernel
theorem d_Ch_howManyWait_4 : decode m_Ch_howManyWait.2.1 4 = .ok (.aload_n 0, 1) := by decide +kernel
theorem d_Ch_howManyWait_5 : decode m_Ch_howManyWait.2.1 5 = .ok (.invokevirtual 73, 3) := by decide +kernel
theorem d_Ch_howManyWait_8 : decode m_Ch_howManyWait.2.1 8 = .ok (.isub, 1) := by decide +kernel
theorem d_Ch_howManyWait_9 : decode m_Ch_howManyWait.2.1 9 = .ok (.ireturn, 1) := by decide +kernel
theorem t_Ch_howManyWait_0 {d : Nat} {st : List Value} {a0 : Nat} {fs2 : List Value} {n4 : Int32} {w : qk_W} {nc ns : Nat} {Q : Option Value ⊕ Nat → qk_W → Nat → Nat → Prop}  (hw1 : wo w a0 2 fs2) (hf3 : fs2[4]? = some (.int n4)) (h8 : ((.int n4 :: st).map fun v => Value.category v).sum ≤ 8) (k : Ev d m_Ch_firstThatWaits 0 [some (.ref a0)] [] w nc ns (fun r w1 nc1 ns1 => match r with | .inl v => Ev (d + 1) m_Ch_howManyWait 8 [some (.ref a0)] (v.toList ++ (.int n4 :: st)) w1 nc1 ns1 Q | .inr x => Q (.inr x) w1 nc1 ns1)) : Ev (d + 1) m_Ch_howManyWait 0 [some (.ref a0)] st w nc ns Q := by
  refine ev_aload_n d_Ch_howManyWait_0 rfl rfl ?_
  refine ev_getf d_Ch_howManyWait_1 fl_Ch_34 hw1.1 hw1.2 hf3 ?_
  refine ev_aload_n d_Ch_howManyWait_4 rfl rfl ?_
  exact ev_call (M' := m_Ch_firstThatWaits) (As := [.ref a0]) (st := (.int n4 :: st)) d_Ch_howManyWait_5 i_Ch_firstThatWaits (fun h => absurd h (by decide +kernel)) cw_Ch_73 rfl rfl ⟨hw1.1, 2, _, _, hw1.2, rfl, rfl⟩ rfl (Nat.le_of_ble_eq_true rfl) h8 k
theorem t_Ch_howManyWait_8 {d : Nat} {o0 : Option Value} {y0 : Int32} {y1 : Int32} {w : qk_W} {nc ns : Nat} {Q : Option Value ⊕ Nat → qk_W → Nat → Nat → Prop}   (hq : Q (.inl (some (.int (y1 - y0)))) w nc ns) : Ev d m_Ch_howManyWait 8 [o0] [.int y0, .int y1] w nc ns Q := by
  refine ev_isub d_Ch_howManyWait_8 ?_
  exact ev_iret d_Ch_howManyWait_9 rfl rfl hq
/-! Ch_firstThatWaits -/
theorem fl_Ch_83 : qk_fl "QuakeLink$Channel" 83 2 6 := ⟨_, rfl, by decide, rfl, (lw_i1 _ (List.mem_of_getElem? (i := 69) rfl))⟩
theorem cw_Ch_43 : qk_cw "QuakeLink$Channel" m_Ch_firstOfRing.1 (.invokevirtual 43) := ⟨(lw_i1 _ (List.mem_of_getElem? (i := 192) rfl)), (lw_i1 _ (List.mem_of_getElem? (i := 194) rfl)), (lw_i0 _ (List.mem_of_getElem? (i := 2) rfl))⟩
theorem cw_Ch_117 : qk_cw "QuakeLink$Channel" m_Math_max.1 (.invokestatic 117) := ⟨Or.inl (lw_i1 _ (List.mem_of_getElem? (i := 203) rfl)), (lw_i1 _ (List.mem_of_getElem? (i := 204) rfl))⟩
theorem d_Ch_firstThatWaits_0 : decode m_Ch_firstThatWaits.2.1 0 = .ok (.aload_n 0, 1) := by decide +kernel
theorem d_Ch_firstThatWaits_1 : decode m_Ch_firstThatWaits.2.1 1 = .ok (.getfield 83, 3) := by decide +kernel
theorem d_Ch_firstThatWaits_4 : decode m_Ch_firstThatWaits.2.1 4 = .ok (.aload_n 0, 1) := by decide +kernel
theorem d_Ch_firstThatWaits_5 : decode m_Ch_firstThatWaits.2.1 5 = .ok (.invokevirtual 43, 3) := by decide +kernel
theorem d_Ch_firstThatWaits_8 : decode m_Ch_firstThatWaits.2.1 8 = .ok (.invokestatic 117, 3) := by decide +kernel
theorem d_Ch_firstThatWaits_11 : decode m_Ch_firstThatWaits.2.1 11 = .ok (.ireturn, 1) := by decide +kernel
theorem t_Ch_firstThatWaits_0 {d : Nat} {st : List Value} {a0 : Nat} {fs2 : List Value} {n4 : Int32} {w : qk_W} {nc ns : Nat} {Q : Option Value ⊕ Nat → qk_W → Nat → Nat → Prop}  (hw1 : wo w a0 2 fs2) (hf3 : fs2[6]? = some (.int n4)) (h8 : ((.int n4 :: st).map fun v => Value.category v).sum ≤ 8) (k : Ev d m_Ch_firstOfRing 0 [some (.ref a0)] [] w nc ns (fun r w1 nc1 ns1 => match r with | .inl v => Ev (d + 1) m_Ch_firstThatWaits 8 [some (.ref a0)] (v.toList ++ (.int n4 :: st)) w1 nc1 ns1 Q | .inr x => Q (.inr x) w1 nc1 ns1)) : Ev (d + 1) m_Ch_firstThatWaits 0 [some (.ref a0)] st w nc ns Q := by
  refine ev_aload_n d_Ch_firstThatWaits_0 rfl rfl ?_
  refine ev_getf d_Ch_firstThatWaits_1 fl_Ch_83 hw1.1 hw1.2 hf3 ?_
  refine ev_aload_n d_Ch_firstThatWaits_4 rfl rfl ?_
  exact ev_call (M' := m_Ch_firstOfRing) (As := [.ref a0]) (st := (.int n4 :: st)) d_Ch_firstThatWaits_5 i_Ch_firstOfRing (fun h => absurd h (by decide +kernel)) cw_Ch_43 rfl rfl ⟨hw1.1, 2, _, _, hw1.2, rfl, rfl⟩ rfl (Nat.le_of_ble_eq_true rfl) h8 k
theorem t_Ch_firstThatWaits_8 {d : Nat} {st : List Value} {o0 : Option Value} {y0 : Int32} {y1 : Int32} {w : qk_W} {nc ns : Nat} {Q : Option Value ⊕ Nat → qk_W → Nat → Nat → Prop}  (h8 : (st.map fun v => Value.category v).sum ≤ 8) (k : Ev d m_Math_max 0 [some (.int y1), some (.int y0)] [] w nc ns (fun r w1 nc1 ns1 => match r with | .inl v => Ev (d + 1) m_Ch_firstThatWaits 11 [o0] (v.toList ++ st) w1 nc1 ns1 Q | .inr x => Q (.inr x) w1 nc1 ns1)) : Ev (d + 1) m_Ch_firstThatWaits 8 [o0] (.int y0 :: .int y1 :: st) w nc ns Q := by
  exact ev_call (M' := m_Math_max) (As := [.int y1, .int y0]) (st := st) d_Ch_firstThatWaits_8 i_Math_max (fun h => absurd h (by decide +kernel)) cw_Ch_117 rfl rfl trivial rfl (Nat.le_of_ble_eq_true rfl) h8 k
theorem t_Ch_firstThatWaits_11 {d : Nat} {o0 : Option Value} {y0 : Int32} {w : qk_W} {nc ns : Nat} {Q : Option Value ⊕ Nat → qk_W → Nat → Nat → Prop}   (hq : Q (.inl (some (.int y0))) w nc ns) : Ev d m_Ch_firstThatWaits 11 [o0] [.int y0] w nc ns Q := by
  exact ev_iret d_Ch_firstThatWaits_11 rfl rfl hq
/-! Ch_firstOfRing -/
theorem cw_Ch_114 : qk_cw "QuakeLink$Channel" m_Ch_inRing.1 (.invokevirtual 114) := ⟨(lw_i1 _ (List.mem_of_getElem? (i := 196) rfl)), (lw_i1 _ (List.mem_of_getElem? (i := 197) rfl)), (lw_i1 _ (List.mem_of_getElem? (i := 198) rfl))⟩
theorem d_Ch_firstOfRing_0 : decode m_Ch_firstOfRing.2.1 0 = .ok (.aload_n 0, 1) := by decide +kernel
theorem d_Ch_firstOfRing_1 : decode m_Ch_firstOfRing.2.1 1 = .ok (.getfield 34, 3) := by decide +kernel
theorem d_Ch_firstOfRing_4 : decode m_Ch_firstOfRing.2.1 4 = .ok (.aload_n 0, 1) := by decide +kernel
theorem d_Ch_firstOfRing_5 : decode m_Ch_firstOfRing.2.1 5 = .ok (.invokevirtual 114, 3) := by decide +kernel
theorem d_Ch_firstOfRing_8 : decode m_Ch_firstOfRing.2.1 8 = .ok (.isub, 1) := by decide +kernel
theorem d_Ch_firstOfRing_9 : decode m_Ch_firstOfRing.2.1 9 = .ok (.ireturn, 1) := by decide +kernel
theorem t_Ch_firstOfRing_0 {d : Nat} {st : List Value} {a0 : Nat} {fs2 : List Value} {n4 : Int32} {w : qk_W} {nc ns : Nat} {Q : Option Value ⊕ Nat → qk_W → Nat → Nat → Prop}  (hw1 : wo w a0 2 fs2) (hf3 : fs2[4]? = some (.int n4)) (h8 : ((.int n4 :: st).map fun v => Value.category v).sum ≤ 8) (k : Ev d m_Ch_inRing 0 [some (.ref a0)] [] w nc ns (fun r w1 nc1 ns1 => match r with | .inl v => Ev (d + 1) m_Ch_firstOfRing 8 [some (.ref a0)] (v.toList ++ (.int n4 :: st)) w1 nc1 ns1 Q | .inr x => Q (.inr x) w1 nc1 ns1)) : Ev (d + 1) m_Ch_firstOfRing 0 [some (.ref a0)] st w nc ns Q := by
  refine ev_aload_n d_Ch_firstOfRing_0 rfl rfl ?_
  refine ev_getf d_Ch_firstOfRing_1 fl_Ch_34 hw1.1 hw1.2 hf3 ?_
  refine ev_aload_n d_Ch_firstOfRing_4 rfl rfl ?_
  exact ev_call (M' := m_Ch_inRing) (As := [.ref a0]) (st := (.int n4 :: st)) d_Ch_firstOfRing_5 i_Ch_inRing (fun h => absurd h (by decide +kernel)) cw_Ch_114 rfl rfl ⟨hw1.1, 2, _, _, hw1.2, rfl, rfl⟩ rfl (Nat.le_of_ble_eq_true rfl) h8 k
theorem t_Ch_firstOfRing_8 {d : Nat} {o0 : Option Value} {y0 : Int32} {y1 : Int32} {w : qk_W} {nc ns : Nat} {Q : Option Value ⊕ Nat → qk_W → Nat → Nat → Prop}   (hq : Q (.inl (some (.int (y1 - y0)))) w nc ns) : Ev d m_Ch_firstOfRing 8 [o0] [.int y0, .int y1] w nc ns Q := by
  refine ev_isub d_Ch_firstOfRing_8 ?_
  exact ev_iret d_Ch_firstOfRing_9 rfl rfl hq
/-! Ch_inRing -/
theorem cw_Ch_37 : qk_cw "QuakeLink$Channel" m_Math_min_III.1 (.invokestatic 37) := ⟨Or.inl (lw_i1 _ (List.mem_of_getElem? (i := 200) rfl)), (lw_i1 _ (List.mem_of_getElem? (i := 201) rfl))⟩
theorem d_Ch_inRing_0 : decode m_Ch_inRing.2.1 0 = .ok (.aload_n 0, 1) := by decide +kernel
theorem d_Ch_inRing_1 : decode m_Ch_inRing.2.1 1 = .ok (.getfield 34, 3) := by decide +kernel
theorem d_Ch_inRing_4 : decode m_Ch_inRing.2.1 4 = .ok (.bipush 32, 2) := by decide +kernel
theorem d_Ch_inRing_6 : decode m_Ch_inRing.2.1 6 = .ok (.invokestatic 37, 3) := by decide +kernel
theorem d_Ch_inRing_9 : decode m_Ch_inRing.2.1 9 = .ok (.ireturn, 1) := by decide +kernel
theorem t_Ch_inRing_0 {d : Nat} {st : List Value} {a0 : Nat} {fs2 : List Value} {n4 : Int32} {w : qk_W} {nc ns : Nat} {Q : Option Value ⊕ Nat → qk_W → Nat → Nat → Prop}  (hw1 : wo w a0 2 fs2) (hf3 : fs2[4]? = some (.int n4)) (h8 : (st.map fun v => Value.category v).sum ≤ 8) (k : Ev d m_Math_min_III 0 [some (.int n4), some (.int 32)] [] w nc ns (fun r w1 nc1 ns1 => match r with | .inl v => Ev (d + 1) m_Ch_inRing 9 [some (.ref a0)] (v.toList ++ st) w1 nc1 ns1 Q | .inr x => Q (.inr x) w1 nc1 ns1)) : Ev (d + 1) m_Ch_inRing 0 [some (.ref a0)] st w nc ns Q := by
  refine ev_aload_n d_Ch_inRing_0 rfl rfl ?_
  refine ev_getf d_Ch_inRing_1 fl_Ch_34 hw1.1 hw1.2 hf3 ?_
  refine ev_bipush 32 d_Ch_inRing_4 (by decide) ?_
  exact ev_call (M' := m_Math_min_III) (As := [.int n4, .int 32]) (st := st) d_Ch_inRing_6 i_Math_min_III (fun h => absurd h (by decide +kernel)) cw_Ch_37 rfl rfl trivial rfl (Nat.le_of_ble_eq_true rfl) h8 k
theorem t_Ch_inRing_9 {d : Nat} {o0 : Option Value} {y0 : Int32} {w : qk_W} {nc ns : Nat} {Q : Option Value ⊕ Nat → qk_W → Nat → Nat → Prop}   (hq : Q (.inl (some (.int y0))) w nc ns) : Ev d m_Ch_inRing 9 [o0] [.int y0] w nc ns Q := by
  exact ev_iret d_Ch_inRing_9 rfl rfl hq
/-! Ch_orderOfFirstThatWaits -/
theorem cw_Ch_47 : qk_cw "QuakeLink$Channel" m_Ch_packet.1 (.invokevirtual 47) := ⟨(lw_i1 _ (List.mem_of_getElem? (i := 210) rfl)), (lw_i1 _ (List.mem_of_getElem? (i := 212) rfl)), (lw_i0 _ (List.mem_of_getElem? (i := 3) rfl))⟩
theorem fl_Ch_76 : qk_fl "QuakeLink$Channel" 76 7 3 := ⟨_, rfl, by decide, rfl, (lw_i2 _ (List.mem_of_getElem? (i := 14) rfl))⟩
theorem d_Ch_orderOfFirstThatWaits_0 : decode m_Ch_orderOfFirstThatWaits.2.1 0 = .ok (.aload_n 0, 1) := by decide +kernel
theorem d_Ch_orderOfFirstThatWaits_1 : decode m_Ch_orderOfFirstThatWaits.2.1 1 = .ok (.aload_n 0, 1) := by decide +kernel
theorem d_Ch_orderOfFirstThatWaits_2 : decode m_Ch_orderOfFirstThatWaits.2.1 2 = .ok (.invokevirtual 73, 3) := by decide +kernel
theorem d_Ch_orderOfFirstThatWaits_5 : decode m_Ch_orderOfFirstThatWaits.2.1 5 = .ok (.invokevirtual 47, 3) := by decide +kernel
theorem d_Ch_orderOfFirstThatWaits_8 : decode m_Ch_orderOfFirstThatWaits.2.1 8 = .ok (.getfield 76, 3) := by decide +kernel
theorem d_Ch_orderOfFirstThatWaits_11 : decode m_Ch_orderOfFirstThatWaits.2.1 11 = .ok (.ireturn, 1) := by decide +kernel
theorem t_Ch_orderOfFirstThatWaits_0 {d : Nat} {st : List Value} {a0 : Nat} {fsb : List Value} {w : qk_W} {nc ns : Nat} {Q : Option Value ⊕ Nat → qk_W → Nat → Nat → Prop}  (hb : wo w a0 2 fsb) (h8 : ((.ref a0 :: st).map fun v => Value.category v).sum ≤ 8) (k : Ev d m_Ch_firstThatWaits 0 [some (.ref a0)] [] w nc ns (fun r w1 nc1 ns1 => match r with | .inl v => Ev (d + 1) m_Ch_orderOfFirstThatWaits 5 [some (.ref a0)] (v.toList ++ (.ref a0 :: st)) w1 nc1 ns1 Q | .inr x => Q (.inr x) w1 nc1 ns1)) : Ev (d + 1) m_Ch_orderOfFirstThatWaits 0 [some (.ref a0)] st w nc ns Q := by
  refine ev_aload_n d_Ch_orderOfFirstThatWaits_0 rfl rfl ?_
  refine ev_aload_n d_Ch_orderOfFirstThatWaits_1 rfl rfl ?_
  exact ev_call (M' := m_Ch_firstThatWaits) (As := [.ref a0]) (st := (.ref a0 :: st)) d_Ch_orderOfFirstThatWaits_2 i_Ch_firstThatWaits (fun h => absurd h (by decide +kernel)) cw_Ch_73 rfl rfl ⟨hb.1, 2, _, _, hb.2, rfl, rfl⟩ rfl (Nat.le_of_ble_eq_true rfl) h8 k
theorem t_Ch_orderOfFirstThatWaits_5 {d : Nat} {st : List Value} {o0 : Option Value} {y0 : Int32} {b1 : Nat} {fsb : List Value} {w : qk_W} {nc ns : Nat} {Q : Option Value ⊕ Nat → qk_W → Nat → Nat → Prop}  (hb : wo w b1 2 fsb) (h8 : (st.map fun v => Value.category v).sum ≤ 8) (k : Ev d m_Ch_packet 0 [some (.ref b1), some (.int y0), none] [] w nc ns (fun r w1 nc1 ns1 => match r with | .inl v => Ev (d + 1) m_Ch_orderOfFirstThatWaits 8 [o0] (v.toList ++ st) w1 nc1 ns1 Q | .inr x => Q (.inr x) w1 nc1 ns1)) : Ev (d + 1) m_Ch_orderOfFirstThatWaits 5 [o0] (.int y0 :: .ref b1 :: st) w nc ns Q := by
  exact ev_call (M' := m_Ch_packet) (As := [.ref b1, .int y0]) (st := st) d_Ch_orderOfFirstThatWaits_5 i_Ch_packet (fun h => absurd h (by decide +kernel)) cw_Ch_47 rfl rfl ⟨hb.1, 2, _, _, hb.2, rfl, rfl⟩ rfl (Nat.le_of_ble_eq_true rfl) h8 k
theorem t_Ch_orderOfFirstThatWaits_8 {d : Nat} {o0 : Option Value} {b0 : Nat} {fs2 : List Value} {n4 : Int32} {w : qk_W} {nc ns : Nat} {Q : Option Value ⊕ Nat → qk_W → Nat → Nat → Prop}  (hw1 : wo w b0 7 fs2) (hf3 : fs2[3]? = some (.int n4)) (hq : Q (.inl (some (.int n4))) w nc ns) : Ev d m_Ch_orderOfFirstThatWaits 8 [o0] [.ref b0] w nc ns Q := by
  refine ev_getf d_Ch_orderOfFirstThatWaits_8 fl_Ch_76 hw1.1 hw1.2 hf3 ?_
  exact ev_iret d_Ch_orderOfFirstThatWaits_11 rfl rfl hq
/-! Ch_packet -/
theorem cw_Ch_120 : qk_cw "QuakeLink$Channel" m_Math_floorMod.1 (.invokestatic 120) := ⟨Or.inl (lw_i1 _ (List.mem_of_getElem? (i := 214) rfl)), (lw_i1 _ (List.mem_of_getElem? (i := 215) rfl))⟩
theorem nl_Ch_18 : qk_nl "QuakeLink$Channel" 18 7 [.null, .int 0, .int 0, .int 0, .null, .int 0, .int 0, .int 0, .int 0, .int 0] := ⟨_, rfl, by decide, (lw_i1 _ (List.mem_of_getElem? (i := 58) rfl)), rfl, rfl⟩
theorem cw_Ch_123 : qk_cw "QuakeLink$Channel" m_Pa_init.1 (.invokespecial 123) := ⟨rfl, Or.inr ⟨"QuakeLink", (lw_i1 _ (List.mem_of_getElem? (i := 218) rfl))⟩, (lw_i1 _ (List.mem_of_getElem? (i := 219) rfl))⟩
theorem d_Ch_packet_0 : decode m_Ch_packet.2.1 0 = .ok (.iload_n 1, 1) := by decide +kernel
theorem d_Ch_packet_1 : decode m_Ch_packet.2.1 1 = .ok (.aload_n 0, 1) := by decide +kernel
theorem d_Ch_packet_2 : decode m_Ch_packet.2.1 2 = .ok (.getfield 20, 3) := by decide +kernel
theorem d_Ch_packet_5 : decode m_Ch_packet.2.1 5 = .ok (.arraylength, 1) := by decide +kernel
theorem d_Ch_packet_6 : decode m_Ch_packet.2.1 6 = .ok (.invokestatic 120, 3) := by decide +kernel
theorem d_Ch_packet_9 : decode m_Ch_packet.2.1 9 = .ok (.istore_n 2, 1) := by decide +kernel
theorem d_Ch_packet_10 : decode m_Ch_packet.2.1 10 = .ok (.aload_n 0, 1) := by decide +kernel
theorem d_Ch_packet_11 : decode m_Ch_packet.2.1 11 = .ok (.getfield 20, 3) := by decide +kernel
theorem d_Ch_packet_14 : decode m_Ch_packet.2.1 14 = .ok (.iload_n 2, 1) := by decide +kernel
theorem d_Ch_packet_15 : decode m_Ch_packet.2.1 15 = .ok (.aaload, 1) := by decide +kernel
theorem d_Ch_packet_16 : decode m_Ch_packet.2.1 16 = .ok (.ifnonnull 16, 3) := by decide +kernel
theorem d_Ch_packet_19 : decode m_Ch_packet.2.1 19 = .ok (.aload_n 0, 1) := by decide +kernel
theorem d_Ch_packet_20 : decode m_Ch_packet.2.1 20 = .ok (.getfield 20, 3) := by decide +kernel
theorem d_Ch_packet_23 : decode m_Ch_packet.2.1 23 = .ok (.iload_n 2, 1) := by decide +kernel
theorem d_Ch_packet_24 : decode m_Ch_packet.2.1 24 = .ok (.new 18, 3) := by decide +kernel
theorem d_Ch_packet_27 : decode m_Ch_packet.2.1 27 = .ok (.dup, 1) := by decide +kernel
theorem d_Ch_packet_28 : decode m_Ch_packet.2.1 28 = .ok (.invokespecial 123, 3) := by decide +kernel
theorem d_Ch_packet_31 : decode m_Ch_packet.2.1 31 = .ok (.aastore, 1) := by decide +kernel
theorem d_Ch_packet_32 : decode m_Ch_packet.2.1 32 = .ok (.aload_n 0, 1) := by decide +kernel
theorem d_Ch_packet_33 : decode m_Ch_packet.2.1 33 = .ok (.getfield 20, 3) := by decide +kernel
theorem d_Ch_packet_36 : decode m_Ch_packet.2.1 36 = .ok (.iload_n 2, 1) := by decide +kernel
theorem d_Ch_packet_37 : decode m_Ch_packet.2.1 37 = .ok (.aaload, 1) := by decide +kernel
theorem d_Ch_packet_38 : decode m_Ch_packet.2.1 38 = .ok (.areturn, 1) := by decide +kernel
theorem t_Ch_packet_0 {d : Nat} {st : List Value} {a0 : Nat} {x1 : Int32} {o2 : Option Value} {fs2 : List Value} {c4 : Nat} {q6 : vp_A} {n7 : Int32} {w : qk_W} {nc ns : Nat} {Q : Option Value ⊕ Nat → qk_W → Nat → Nat → Prop}  (hw1 : wo w a0 2 fs2) (hf3 : fs2[3]? = some (.ref c4)) (ha5 : w c4 = some (.inl (.object "QuakeLink$Packet", q6))) (hn8 : Int32.ofNat q6.1 = n7) (h8 : (st.map fun v => Value.category v).sum ≤ 8) (k : Ev d m_Math_floorMod 0 [some (.int x1), some (.int n7), none] [] w nc ns (fun r w1 nc1 ns1 => match r with | .inl v => Ev (d + 1) m_Ch_packet 9 [some (.ref a0), some (.int x1), o2] (v.toList ++ st) w1 nc1 ns1 Q | .inr x => Q (.inr x) w1 nc1 ns1)) : Ev (d + 1) m_Ch_packet 0 [some (.ref a0), some (.int x1), o2] st w nc ns Q := by
  refine ev_iload_n d_Ch_packet_0 rfl ?_
  refine ev_aload_n d_Ch_packet_1 rfl rfl ?_
  refine ev_getf d_Ch_packet_2 fl_Ch_20 hw1.1 hw1.2 hf3 ?_
  refine ev_alen d_Ch_packet_5 (by decide) ha5 hn8 ?_
  exact ev_call (M' := m_Math_floorMod) (As := [.int x1, .int n7]) (st := st) d_Ch_packet_6 i_Math_floorMod (fun h => absurd h (by decide +kernel)) cw_Ch_120 rfl rfl trivial rfl (Nat.le_of_ble_eq_true rfl) h8 k
theorem t_Ch_packet_9 {d : Nat} {st : List Value} {a0 : Nat} {o1 : Option Value} {o2 : Option Value} {y0 : Int32} {fs3 : List Value} {c5 : Nat} {n7 : Nat} {f8 : Nat → Option Nat} {c11 : Nat} {w : qk_W} {nc ns : Nat} {Q : Option Value ⊕ Nat → qk_W → Nat → Nat → Prop}  (hc1 : qk_c2 [some (.ref a0), o1, o2] 2 = true) (hw2 : wo w a0 2 fs3) (hf4 : fs3[3]? = some (.ref c5)) (ha6 : wr "QuakeLink$Packet" w c5 n7 f8) (hi9 : vp_in y0 n7) (hr10 : f8 y0.toNatClampNeg = some c11) (k : Ev d m_Ch_packet 32 [some (.ref a0), o1, some (.int y0)] st w nc ns Q) : Ev d m_Ch_packet 9 [some (.ref a0), o1, o2] (.int y0 :: st) w nc ns Q := by
  refine ev_istore_n d_Ch_packet_9 (by decide) hc1 ?_
  refine ev_aload_n d_Ch_packet_10 rfl rfl ?_
  refine ev_getf d_Ch_packet_11 fl_Ch_20 hw2.1 hw2.2 hf4 ?_
  refine ev_iload_n d_Ch_packet_14 rfl ?_
  refine ev_aald d_Ch_packet_15 ha6.1 (by decide) ha6.2 hi9 ?_
  rw [hr10]
  show Ev _ _ _ _ (Value.ref c11 :: _) _ _ _ _
  refine ev_ifnonnull_r 32 d_Ch_packet_16 (by decide) ?_
  exact k
theorem t_Ch_packet_9n {d : Nat} {st : List Value} {a0 : Nat} {o1 : Option Value} {o2 : Option Value} {y0 : Int32} {fs3 : List Value} {c5 : Nat} {n7 : Nat} {f8 : Nat → Option Nat} {w : qk_W} {nc ns : Nat} {Q : Option Value ⊕ Nat → qk_W → Nat → Nat → Prop}  (hc1 : qk_c2 [some (.ref a0), o1, o2] 2 = true) (hw2 : wo w a0 2 fs3) (hf4 : fs3[3]? = some (.ref c5)) (ha6 : wr "QuakeLink$Packet" w c5 n7 f8) (hi9 : vp_in y0 n7) (hr10 : f8 y0.toNatClampNeg = none) (k : Ev d m_Ch_packet 19 [some (.ref a0), o1, some (.int y0)] st w nc ns Q) : Ev d m_Ch_packet 9 [some (.ref a0), o1, o2] (.int y0 :: st) w nc ns Q := by
  refine ev_istore_n d_Ch_packet_9 (by decide) hc1 ?_
  refine ev_aload_n d_Ch_packet_10 rfl rfl ?_
  refine ev_getf d_Ch_packet_11 fl_Ch_20 hw2.1 hw2.2 hf4 ?_
  refine ev_iload_n d_Ch_packet_14 rfl ?_
  refine ev_aald d_Ch_packet_15 ha6.1 (by decide) ha6.2 hi9 ?_
  rw [hr10]
  show Ev _ _ _ _ (Value.null :: _) _ _ _ _
  refine ev_ifnonnull_n d_Ch_packet_16 ?_
  exact k
theorem t_Ch_packet_19 {d : Nat} {st : List Value} {a0 : Nat} {o1 : Option Value} {x2 : Int32} {fs2 : List Value} {c4 : Nat} {w : qk_W} {nc ns : Nat} {Q : Option Value ⊕ Nat → qk_W → Nat → Nat → Prop}  (v : Nat) (hv : 16 ≤ v) (hn : w v = none) (hw1 : wo w a0 2 fs2) (hf3 : fs2[3]? = some (.ref c4)) (k : Ev d m_Ch_packet 27 [some (.ref a0), o1, some (.int x2)] (.ref v :: .int x2 :: .ref c4 :: st) (qk_set w v (.inr (7, [.null, .int 0, .int 0, .int 0, .null, .int 0, .int 0, .int 0, .int 0, .int 0]))) (nc + 1) (ns + 10) Q) : Ev d m_Ch_packet 19 [some (.ref a0), o1, some (.int x2)] st w nc ns Q := by
  refine ev_aload_n d_Ch_packet_19 rfl rfl ?_
  refine ev_getf d_Ch_packet_20 fl_Ch_20 hw1.1 hw1.2 hf3 ?_
  refine ev_iload_n d_Ch_packet_23 rfl ?_
  exact ev_new v d_Ch_packet_24 nl_Ch_18 hv hn k
theorem t_Ch_packet_27 {d : Nat} {st : List Value} {o0 : Option Value} {o1 : Option Value} {o2 : Option Value} {b0 : Nat} {w : qk_W} {nc ns : Nat} {Q : Option Value ⊕ Nat → qk_W → Nat → Nat → Prop}  (h8 : ((.ref b0 :: st).map fun v => Value.category v).sum ≤ 8) (k : Ev d m_Pa_init 0 [some (.ref b0)] [] w nc ns (fun r w1 nc1 ns1 => match r with | .inl v => Ev (d + 1) m_Ch_packet 31 [o0, o1, o2] (v.toList ++ (.ref b0 :: st)) w1 nc1 ns1 Q | .inr x => Q (.inr x) w1 nc1 ns1)) : Ev (d + 1) m_Ch_packet 27 [o0, o1, o2] (.ref b0 :: st) w nc ns Q := by
  refine ev_dup d_Ch_packet_27 rfl ?_
  exact ev_call (M' := m_Pa_init) (As := [.ref b0]) (st := (.ref b0 :: st)) d_Ch_packet_28 i_Pa_init ii_Pa_init cw_Ch_123 rfl rfl trivial rfl (Nat.le_of_ble_eq_true rfl) h8 k
theorem t_Ch_packet_31 {d : Nat} {st : List Value} {o0 : Option Value} {o1 : Option Value} {o2 : Option Value} {b0 : Nat} {y1 : Int32} {b2 : Nat} {n2 : Nat} {f3 : Nat → Option Nat} {vs : List Value} {w : qk_W} {nc ns : Nat} {Q : Option Value ⊕ Nat → qk_W → Nat → Nat → Prop}  (ha1 : wr "QuakeLink$Packet" w b2 n2 f3) (hi : vp_in y1 n2) (hv : wo w b0 7 vs) (k : Ev d m_Ch_packet 32 [o0, o1, o2] st (qk_set w b2 (.inl (.object "QuakeLink$Packet", n2, .inr (.inr (.inr (.inr (va_up f3 y1.toNatClampNeg (some b0)))))))) nc ns Q) : Ev d m_Ch_packet 31 [o0, o1, o2] (.ref b0 :: .int y1 :: .ref b2 :: st) w nc ns Q := by
  exact ev_aast (ci := 7) d_Ch_packet_31 ha1.1 hv.1 rfl (by decide) ha1.2 hv.2 hi k
theorem t_Ch_packet_32 {d : Nat} {a0 : Nat} {o1 : Option Value} {x2 : Int32} {fs2 : List Value} {c4 : Nat} {n6 : Nat} {f7 : Nat → Option Nat} {c10 : Nat} {w : qk_W} {nc ns : Nat} {Q : Option Value ⊕ Nat → qk_W → Nat → Nat → Prop}  (hw1 : wo w a0 2 fs2) (hf3 : fs2[3]? = some (.ref c4)) (ha5 : wr "QuakeLink$Packet" w c4 n6 f7) (hi8 : vp_in x2 n6) (hr9 : f7 x2.toNatClampNeg = some c10) (hq : Q (.inl (some (.ref c10))) w nc ns) : Ev d m_Ch_packet 32 [some (.ref a0), o1, some (.int x2)] [] w nc ns Q := by
  refine ev_aload_n d_Ch_packet_32 rfl rfl ?_
  refine ev_getf d_Ch_packet_33 fl_Ch_20 hw1.1 hw1.2 hf3 ?_
  refine ev_iload_n d_Ch_packet_36 rfl ?_
  refine ev_aald d_Ch_packet_37 ha5.1 (by decide) ha5.2 hi8 ?_
  rw [hr9]
  show Ev _ _ _ _ (Value.ref c10 :: _) _ _ _ _
  exact ev_aret d_Ch_packet_38 rfl rfl hq
/-! Ch_sendWaiting -/
theorem cw_Ch_79 : qk_cw "QuakeLink$Channel" m_Ch_send.1 (.invokevirtual 79) := ⟨(lw_i2 _ (List.mem_of_getElem? (i := 63) rfl)), (lw_i2 _ (List.mem_of_getElem? (i := 65) rfl)), (lw_i0 _ (List.mem_of_getElem? (i := 5) rfl))⟩
theorem d_Ch_sendWaiting_0 : decode m_Ch_sendWaiting.2.1 0 = .ok (.aload_n 0, 1) := by decide +kernel
theorem d_Ch_sendWaiting_1 : decode m_Ch_sendWaiting.2.1 1 = .ok (.invokevirtual 73, 3) := by decide +kernel
theorem d_Ch_sendWaiting_4 : decode m_Ch_sendWaiting.2.1 4 = .ok (.istore_n 2, 1) := by decide +kernel
theorem d_Ch_sendWaiting_5 : decode m_Ch_sendWaiting.2.1 5 = .ok (.aload_n 0, 1) := by decide +kernel
theorem d_Ch_sendWaiting_6 : decode m_Ch_sendWaiting.2.1 6 = .ok (.aload_n 0, 1) := by decide +kernel
theorem d_Ch_sendWaiting_7 : decode m_Ch_sendWaiting.2.1 7 = .ok (.iload_n 2, 1) := by decide +kernel
theorem d_Ch_sendWaiting_8 : decode m_Ch_sendWaiting.2.1 8 = .ok (.invokevirtual 47, 3) := by decide +kernel
theorem d_Ch_sendWaiting_11 : decode m_Ch_sendWaiting.2.1 11 = .ok (.aload_n 1, 1) := by decide +kernel
theorem d_Ch_sendWaiting_12 : decode m_Ch_sendWaiting.2.1 12 = .ok (.invokevirtual 79, 3) := by decide +kernel
theorem d_Ch_sendWaiting_15 : decode m_Ch_sendWaiting.2.1 15 = .ok (.aload_n 0, 1) := by decide +kernel
theorem d_Ch_sendWaiting_16 : decode m_Ch_sendWaiting.2.1 16 = .ok (.iload_n 2, 1) := by decide +kernel
theorem d_Ch_sendWaiting_17 : decode m_Ch_sendWaiting.2.1 17 = .ok (.iconst 1, 1) := by decide +kernel
theorem d_Ch_sendWaiting_18 : decode m_Ch_sendWaiting.2.1 18 = .ok (.iadd, 1) := by decide +kernel
theorem d_Ch_sendWaiting_19 : decode m_Ch_sendWaiting.2.1 19 = .ok (.putfield 83, 3) := by decide +kernel
theorem d_Ch_sendWaiting_22 : decode m_Ch_sendWaiting.2.1 22 = .ok (.return_, 1) := by decide +kernel
theorem t_Ch_sendWaiting_0 {d : Nat} {st : List Value} {a0 : Nat} {o1 : Option Value} {o2 : Option Value} {fsb : List Value} {w : qk_W} {nc ns : Nat} {Q : Option Value ⊕ Nat → qk_W → Nat → Nat → Prop}  (hb : wo w a0 2 fsb) (h8 : (st.map fun v => Value.category v).sum ≤ 8) (k : Ev d m_Ch_firstThatWaits 0 [some (.ref a0)] [] w nc ns (fun r w1 nc1 ns1 => match r with | .inl v => Ev (d + 1) m_Ch_sendWaiting 4 [some (.ref a0), o1, o2] (v.toList ++ st) w1 nc1 ns1 Q | .inr x => Q (.inr x) w1 nc1 ns1)) : Ev (d + 1) m_Ch_sendWaiting 0 [some (.ref a0), o1, o2] st w nc ns Q := by
  refine ev_aload_n d_Ch_sendWaiting_0 rfl rfl ?_
  exact ev_call (M' := m_Ch_firstThatWaits) (As := [.ref a0]) (st := st) d_Ch_sendWaiting_1 i_Ch_firstThatWaits (fun h => absurd h (by decide +kernel)) cw_Ch_73 rfl rfl ⟨hb.1, 2, _, _, hb.2, rfl, rfl⟩ rfl (Nat.le_of_ble_eq_true rfl) h8 k
theorem t_Ch_sendWaiting_4 {d : Nat} {st : List Value} {a0 : Nat} {o1 : Option Value} {o2 : Option Value} {y0 : Int32} {fsb : List Value} {w : qk_W} {nc ns : Nat} {Q : Option Value ⊕ Nat → qk_W → Nat → Nat → Prop}  (hc1 : qk_c2 [some (.ref a0), o1, o2] 2 = true) (hb : wo w a0 2 fsb) (h8 : ((.ref a0 :: st).map fun v => Value.category v).sum ≤ 8) (k : Ev d m_Ch_packet 0 [some (.ref a0), some (.int y0), none] [] w nc ns (fun r w1 nc1 ns1 => match r with | .inl v => Ev (d + 1) m_Ch_sendWaiting 11 [some (.ref a0), o1, some (.int y0)] (v.toList ++ (.ref a0 :: st)) w1 nc1 ns1 Q | .inr x => Q (.inr x) w1 nc1 ns1)) : Ev (d + 1) m_Ch_sendWaiting 4 [some (.ref a0), o1, o2] (.int y0 :: st) w nc ns Q := by
  refine ev_istore_n d_Ch_sendWaiting_4 (by decide) hc1 ?_
  refine ev_aload_n d_Ch_sendWaiting_5 rfl rfl ?_
  refine ev_aload_n d_Ch_sendWaiting_6 rfl rfl ?_
  refine ev_iload_n d_Ch_sendWaiting_7 rfl ?_
  exact ev_call (M' := m_Ch_packet) (As := [.ref a0, .int y0]) (st := (.ref a0 :: st)) d_Ch_sendWaiting_8 i_Ch_packet (fun h => absurd h (by decide +kernel)) cw_Ch_47 rfl rfl ⟨hb.1, 2, _, _, hb.2, rfl, rfl⟩ rfl (Nat.le_of_ble_eq_true rfl) h8 k
theorem t_Ch_sendWaiting_11 {d : Nat} {st : List Value} {o0 : Option Value} {a1 : Nat} {o2 : Option Value} {b0 : Nat} {b1 : Nat} {fsb : List Value} {w : qk_W} {nc ns : Nat} {Q : Option Value ⊕ Nat → qk_W → Nat → Nat → Prop}  (hb : wo w b1 2 fsb) (h8 : (st.map fun v => Value.category v).sum ≤ 8) (k : Ev d m_Ch_send 0 [some (.ref b1), some (.ref b0), some (.ref a1), none] [] w nc ns (fun r w1 nc1 ns1 => match r with | .inl v => Ev (d + 1) m_Ch_sendWaiting 15 [o0, some (.ref a1), o2] (v.toList ++ st) w1 nc1 ns1 Q | .inr x => Q (.inr x) w1 nc1 ns1)) : Ev (d + 1) m_Ch_sendWaiting 11 [o0, some (.ref a1), o2] (.ref b0 :: .ref b1 :: st) w nc ns Q := by
  refine ev_aload_n d_Ch_sendWaiting_11 rfl rfl ?_
  exact ev_call (M' := m_Ch_send) (As := [.ref b1, .ref b0, .ref a1]) (st := st) d_Ch_sendWaiting_12 i_Ch_send (fun h => absurd h (by decide +kernel)) cw_Ch_79 rfl rfl ⟨hb.1, 2, _, _, hb.2, rfl, rfl⟩ rfl (Nat.le_of_ble_eq_true rfl) h8 k
theorem t_Ch_sendWaiting_15 {d : Nat} {st : List Value} {a0 : Nat} {o1 : Option Value} {x2 : Int32} {fs2 : List Value} {w : qk_W} {nc ns : Nat} {Q : Option Value ⊕ Nat → qk_W → Nat → Nat → Prop}  (hw1 : wo w a0 2 fs2) (hk : 6 < fs2.length) (k : Ev d m_Ch_sendWaiting 22 [some (.ref a0), o1, some (.int x2)] st (qk_set w a0 (.inr (2, fs2.set 6 (.int (x2 + 1))))) nc ns Q) : Ev d m_Ch_sendWaiting 15 [some (.ref a0), o1, some (.int x2)] st w nc ns Q := by
  refine ev_aload_n d_Ch_sendWaiting_15 rfl rfl ?_
  refine ev_iload_n d_Ch_sendWaiting_16 rfl ?_
  refine ev_iconst 1 d_Ch_sendWaiting_17 (by decide) ?_
  refine ev_iadd d_Ch_sendWaiting_18 ?_
  exact ev_putf d_Ch_sendWaiting_19 fl_Ch_83 rfl hw1.1 hw1.2 hk (qk_fitI _) k
theorem t_Ch_sendWaiting_22 {d : Nat} {o0 : Option Value} {o1 : Option Value} {o2 : Option Value} {w : qk_W} {nc ns : Nat} {Q : Option Value ⊕ Nat → qk_W → Nat → Nat → Prop}   (hq : Q (.inl none) w nc ns) : Ev d m_Ch_sendWaiting 22 [o0, o1, o2] [] w nc ns Q := by
  exact ev_vret d_Ch_sendWaiting_22 rfl hq
/-! Ch_send -/
theorem fl_Ch_124 : qk_fl "QuakeLink$Channel" 124 7 0 := ⟨_, rfl, by decide, rfl, (lw_i2 _ (List.mem_of_getElem? (i := 8) rfl))⟩
theorem fl_Ch_128 : qk_fl "QuakeLink$Channel" 128 8 1 := ⟨_, rfl, by decide, rfl, (lw_i2 _ (List.mem_of_getElem? (i := 0) rfl))⟩
theorem cw_Ch_133 : qk_cw "QuakeLink$Channel" m_Ai_add.1 (.invokevirtual 133) := ⟨(lw_i2 _ (List.mem_of_getElem? (i := 67) rfl)), (lw_i2 _ (List.mem_of_getElem? (i := 68) rfl)), (lw_i2 _ (List.mem_of_getElem? (i := 69) rfl))⟩
theorem cw_Ch_139 : qk_cw "QuakeLink$Channel" m_Me_copy.1 (.invokevirtual 139) := ⟨(lw_i2 _ (List.mem_of_getElem? (i := 73) rfl)), (lw_i2 _ (List.mem_of_getElem? (i := 74) rfl)), (lw_i2 _ (List.mem_of_getElem? (i := 75) rfl))⟩
theorem cw_Ch_90 : qk_cw "QuakeLink$Channel" m_Ch_oldest.1 (.invokevirtual 90) := ⟨(lw_i2 _ (List.mem_of_getElem? (i := 80) rfl)), (lw_i2 _ (List.mem_of_getElem? (i := 81) rfl)), (lw_i2 _ (List.mem_of_getElem? (i := 82) rfl))⟩
theorem cw_Ch_143 : qk_cw "QuakeLink$Channel" m_Me_put.1 (.invokevirtual 143) := ⟨(lw_i2 _ (List.mem_of_getElem? (i := 84) rfl)), (lw_i2 _ (List.mem_of_getElem? (i := 85) rfl)), (lw_i2 _ (List.mem_of_getElem? (i := 86) rfl))⟩
theorem cw_Ch_146 : qk_cw "QuakeLink$Channel" m_Me_seal.1 (.invokevirtual 146) := ⟨(lw_i2 _ (List.mem_of_getElem? (i := 88) rfl)), (lw_i2 _ (List.mem_of_getElem? (i := 89) rfl)), (lw_i2 _ (List.mem_of_getElem? (i := 90) rfl))⟩
theorem d_Ch_send_0 : decode m_Ch_send.2.1 0 = .ok (.aload_n 2, 1) := by decide +kernel
theorem d_Ch_send_1 : decode m_Ch_send.2.1 1 = .ok (.aload_n 1, 1) := by decide +kernel
theorem d_Ch_send_2 : decode m_Ch_send.2.1 2 = .ok (.getfield 124, 3) := by decide +kernel
theorem d_Ch_send_5 : decode m_Ch_send.2.1 5 = .ok (.getfield 128, 3) := by decide +kernel
theorem d_Ch_send_8 : decode m_Ch_send.2.1 8 = .ok (.invokevirtual 133, 3) := by decide +kernel
theorem d_Ch_send_11 : decode m_Ch_send.2.1 11 = .ok (.astore_n 3, 1) := by decide +kernel
theorem d_Ch_send_12 : decode m_Ch_send.2.1 12 = .ok (.aload_n 3, 1) := by decide +kernel
theorem d_Ch_send_13 : decode m_Ch_send.2.1 13 = .ok (.aload_n 1, 1) := by decide +kernel
theorem d_Ch_send_14 : decode m_Ch_send.2.1 14 = .ok (.getfield 124, 3) := by decide +kernel
theorem d_Ch_send_17 : decode m_Ch_send.2.1 17 = .ok (.invokevirtual 139, 3) := by decide +kernel
theorem d_Ch_send_20 : decode m_Ch_send.2.1 20 = .ok (.aload_n 3, 1) := by decide +kernel
theorem d_Ch_send_21 : decode m_Ch_send.2.1 21 = .ok (.iconst 4, 1) := by decide +kernel
theorem d_Ch_send_22 : decode m_Ch_send.2.1 22 = .ok (.iconst 4, 1) := by decide +kernel
theorem d_Ch_send_23 : decode m_Ch_send.2.1 23 = .ok (.aload_n 0, 1) := by decide +kernel
theorem d_Ch_send_24 : decode m_Ch_send.2.1 24 = .ok (.invokevirtual 90, 3) := by decide +kernel
theorem d_Ch_send_27 : decode m_Ch_send.2.1 27 = .ok (.invokevirtual 143, 3) := by decide +kernel
theorem d_Ch_send_30 : decode m_Ch_send.2.1 30 = .ok (.aload_n 3, 1) := by decide +kernel
theorem d_Ch_send_31 : decode m_Ch_send.2.1 31 = .ok (.invokevirtual 146, 3) := by decide +kernel
theorem d_Ch_send_34 : decode m_Ch_send.2.1 34 = .ok (.return_, 1) := by decide +kernel
theorem t_Ch_send_0 {d : Nat} {st : List Value} {o0 : Option Value} {a1 : Nat} {a2 : Nat} {o3 : Option Value} {fs2 : List Value} {c4 : Nat} {fs6 : List Value} {n8 : Int32} {fsb : List Value} {w : qk_W} {nc ns : Nat} {Q : Option Value ⊕ Nat → qk_W → Nat → Nat → Prop}  (hw1 : wo w a1 7 fs2) (hf3 : fs2[0]? = some (.ref c4)) (hw5 : wo w c4 8 fs6) (hf7 : fs6[1]? = some (.int n8)) (hb : wo w a2 4 fsb) (h8 : (st.map fun v => Value.category v).sum ≤ 8) (k : Ev d m_Ai_add 0 [some (.ref a2), some (.int n8), none] [] w nc ns (fun r w1 nc1 ns1 => match r with | .inl v => Ev (d + 1) m_Ch_send 11 [o0, some (.ref a1), some (.ref a2), o3] (v.toList ++ st) w1 nc1 ns1 Q | .inr x => Q (.inr x) w1 nc1 ns1)) : Ev (d + 1) m_Ch_send 0 [o0, some (.ref a1), some (.ref a2), o3] st w nc ns Q := by
  refine ev_aload_n d_Ch_send_0 rfl rfl ?_
  refine ev_aload_n d_Ch_send_1 rfl rfl ?_
  refine ev_getf d_Ch_send_2 fl_Ch_124 hw1.1 hw1.2 hf3 ?_
  refine ev_getf d_Ch_send_5 fl_Ch_128 hw5.1 hw5.2 hf7 ?_
  exact ev_call (M' := m_Ai_add) (As := [.ref a2, .int n8]) (st := st) d_Ch_send_8 i_Ai_add (fun h => absurd h (by decide +kernel)) cw_Ch_133 rfl rfl ⟨hb.1, 4, _, _, hb.2, rfl, rfl⟩ rfl (Nat.le_of_ble_eq_true rfl) h8 k
theorem t_Ch_send_11 {d : Nat} {st : List Value} {o0 : Option Value} {a1 : Nat} {o2 : Option Value} {o3 : Option Value} {b0 : Nat} {fs3 : List Value} {c5 : Nat} {fsb : List Value} {w : qk_W} {nc ns : Nat} {Q : Option Value ⊕ Nat → qk_W → Nat → Nat → Prop}  (hc1 : qk_c2 [o0, some (.ref a1), o2, o3] 3 = true) (hw2 : wo w a1 7 fs3) (hf4 : fs3[0]? = some (.ref c5)) (hb : wo w b0 8 fsb) (h8 : (st.map fun v => Value.category v).sum ≤ 8) (k : Ev d m_Me_copy 0 [some (.ref b0), some (.ref c5)] [] w nc ns (fun r w1 nc1 ns1 => match r with | .inl v => Ev (d + 1) m_Ch_send 20 [o0, some (.ref a1), o2, some (.ref b0)] (v.toList ++ st) w1 nc1 ns1 Q | .inr x => Q (.inr x) w1 nc1 ns1)) : Ev (d + 1) m_Ch_send 11 [o0, some (.ref a1), o2, o3] (.ref b0 :: st) w nc ns Q := by
  refine ev_astore_n d_Ch_send_11 rfl (by decide) hc1 ?_
  refine ev_aload_n d_Ch_send_12 rfl rfl ?_
  refine ev_aload_n d_Ch_send_13 rfl rfl ?_
  refine ev_getf d_Ch_send_14 fl_Ch_124 hw2.1 hw2.2 hf4 ?_
  exact ev_call (M' := m_Me_copy) (As := [.ref b0, .ref c5]) (st := st) d_Ch_send_17 i_Me_copy (fun h => absurd h (by decide +kernel)) cw_Ch_139 rfl rfl ⟨hb.1, 8, _, _, hb.2, rfl, rfl⟩ rfl (Nat.le_of_ble_eq_true rfl) h8 k
theorem t_Ch_send_20 {d : Nat} {st : List Value} {a0 : Nat} {o1 : Option Value} {o2 : Option Value} {v3 : Value} {fsb : List Value} {w : qk_W} {nc ns : Nat} {Q : Option Value ⊕ Nat → qk_W → Nat → Nat → Prop} (hv3 : qk_isr v3 = true) (hb : wo w a0 2 fsb) (h8 : ((.int 4 :: .int 4 :: v3 :: st).map fun v => Value.category v).sum ≤ 8) (k : Ev d m_Ch_oldest 0 [some (.ref a0)] [] w nc ns (fun r w1 nc1 ns1 => match r with | .inl v => Ev (d + 1) m_Ch_send 27 [some (.ref a0), o1, o2, some v3] (v.toList ++ (.int 4 :: .int 4 :: v3 :: st)) w1 nc1 ns1 Q | .inr x => Q (.inr x) w1 nc1 ns1)) : Ev (d + 1) m_Ch_send 20 [some (.ref a0), o1, o2, some v3] st w nc ns Q := by
  refine ev_aload_n d_Ch_send_20 rfl hv3 ?_
  refine ev_iconst 4 d_Ch_send_21 (by decide) ?_
  refine ev_iconst 4 d_Ch_send_22 (by decide) ?_
  refine ev_aload_n d_Ch_send_23 rfl rfl ?_
  exact ev_call (M' := m_Ch_oldest) (As := [.ref a0]) (st := (.int 4 :: .int 4 :: v3 :: st)) d_Ch_send_24 i_Ch_oldest (fun h => absurd h (by decide +kernel)) cw_Ch_90 rfl rfl ⟨hb.1, 2, _, _, hb.2, rfl, rfl⟩ rfl (Nat.le_of_ble_eq_true rfl) h8 k
theorem t_Ch_send_27 {d : Nat} {st : List Value} {o0 : Option Value} {o1 : Option Value} {o2 : Option Value} {o3 : Option Value} {y0 : Int32} {y1 : Int32} {y2 : Int32} {b3 : Nat} {fsb : List Value} {w : qk_W} {nc ns : Nat} {Q : Option Value ⊕ Nat → qk_W → Nat → Nat → Prop}  (hb : wo w b3 8 fsb) (h8 : (st.map fun v => Value.category v).sum ≤ 8) (k : Ev d m_Me_put 0 [some (.ref b3), some (.int y2), some (.int y1), some (.int y0), none] [] w nc ns (fun r w1 nc1 ns1 => match r with | .inl v => Ev (d + 1) m_Ch_send 30 [o0, o1, o2, o3] (v.toList ++ st) w1 nc1 ns1 Q | .inr x => Q (.inr x) w1 nc1 ns1)) : Ev (d + 1) m_Ch_send 27 [o0, o1, o2, o3] (.int y0 :: .int y1 :: .int y2 :: .ref b3 :: st) w nc ns Q := by
  exact ev_call (M' := m_Me_put) (As := [.ref b3, .int y2, .int y1, .int y0]) (st := st) d_Ch_send_27 i_Me_put (fun h => absurd h (by decide +kernel)) cw_Ch_143 rfl rfl ⟨hb.1, 8, _, _, hb.2, rfl, rfl⟩ rfl (Nat.le_of_ble_eq_true rfl) h8 k
theorem t_Ch_send_30 {d : Nat} {st : List Value} {o0 : Option Value} {o1 : Option Value} {o2 : Option Value} {a3 : Nat} {fsb : List Value} {w : qk_W} {nc ns : Nat} {Q : Option Value ⊕ Nat → qk_W → Nat → Nat → Prop}  (hb : wo w a3 8 fsb) (h8 : (st.map fun v => Value.category v).sum ≤ 8) (k : Ev d m_Me_seal 0 [some (.ref a3)] [] w nc ns (fun r w1 nc1 ns1 => match r with | .inl v => Ev (d + 1) m_Ch_send 34 [o0, o1, o2, some (.ref a3)] (v.toList ++ st) w1 nc1 ns1 Q | .inr x => Q (.inr x) w1 nc1 ns1)) : Ev (d + 1) m_Ch_send 30 [o0, o1, o2, some (.ref a3)] st w nc ns Q := by
  refine ev_aload_n d_Ch_send_30 rfl rfl ?_
  exact ev_call (M' := m_Me_seal) (As := [.ref a3]) (st := st) d_Ch_send_31 i_Me_seal (fun h => absurd h (by decide +kernel)) cw_Ch_146 rfl rfl ⟨hb.1, 8, _, _, hb.2, rfl, rfl⟩ rfl (Nat.le_of_ble_eq_true rfl) h8 k
theorem t_Ch_send_34 {d : Nat} {o0 : Option Value} {o1 : Option Value} {o2 : Option Value} {o3 : Option Value} {w : qk_W} {nc ns : Nat} {Q : Option Value ⊕ Nat → qk_W → Nat → Nat → Prop}   (hq : Q (.inl none) w nc ns) : Ev d m_Ch_send 34 [o0, o1, o2, o3] [] w nc ns Q := by
  exact ev_vret d_Ch_send_34 rfl hq
/-! Ch_oldest -/
theorem fl_Ch_51 : qk_fl "QuakeLink$Channel" 51 7 1 := ⟨_, rfl, by decide, rfl, (lw_i2 _ (List.mem_of_getElem? (i := 10) rfl))⟩
theorem d_Ch_oldest_0 : decode m_Ch_oldest.2.1 0 = .ok (.aload_n 0, 1) := by decide +kernel
theorem d_Ch_oldest_1 : decode m_Ch_oldest.2.1 1 = .ok (.getfield 34, 3) := by decide +kernel
theorem d_Ch_oldest_4 : decode m_Ch_oldest.2.1 4 = .ok (.ifCond .ne 7, 3) := by decide +kernel
theorem d_Ch_oldest_7 : decode m_Ch_oldest.2.1 7 = .ok (.iconst 0, 1) := by decide +kernel
theorem d_Ch_oldest_8 : decode m_Ch_oldest.2.1 8 = .ok (.goto 14, 3) := by decide +kernel
theorem d_Ch_oldest_11 : decode m_Ch_oldest.2.1 11 = .ok (.aload_n 0, 1) := by decide +kernel
theorem d_Ch_oldest_12 : decode m_Ch_oldest.2.1 12 = .ok (.aload_n 0, 1) := by decide +kernel
theorem d_Ch_oldest_13 : decode m_Ch_oldest.2.1 13 = .ok (.invokevirtual 43, 3) := by decide +kernel
theorem d_Ch_oldest_16 : decode m_Ch_oldest.2.1 16 = .ok (.invokevirtual 47, 3) := by decide +kernel
theorem d_Ch_oldest_19 : decode m_Ch_oldest.2.1 19 = .ok (.getfield 51, 3) := by decide +kernel
theorem d_Ch_oldest_22 : decode m_Ch_oldest.2.1 22 = .ok (.ireturn, 1) := by decide +kernel
theorem t_Ch_oldest_0 {d : Nat} {st : List Value} {a0 : Nat} {fs2 : List Value} {n4 : Int32} {w : qk_W} {nc ns : Nat} {Q : Option Value ⊕ Nat → qk_W → Nat → Nat → Prop}  (hw1 : wo w a0 2 fs2) (hf3 : fs2[4]? = some (.int n4)) (kt : ¬ n4 = 0 → Ev d m_Ch_oldest 11 [some (.ref a0)] st w nc ns Q) (kf : n4 = 0 → Ev d m_Ch_oldest 7 [some (.ref a0)] st w nc ns Q) : Ev d m_Ch_oldest 0 [some (.ref a0)] st w nc ns Q := by
  refine ev_aload_n d_Ch_oldest_0 rfl rfl ?_
  refine ev_getf d_Ch_oldest_1 fl_Ch_34 hw1.1 hw1.2 hf3 ?_
  exact ev_if_ne 11 d_Ch_oldest_4 (by decide) kt kf
theorem t_Ch_oldest_7 {d : Nat} {o0 : Option Value} {w : qk_W} {nc ns : Nat} {Q : Option Value ⊕ Nat → qk_W → Nat → Nat → Prop}   (hq : Q (.inl (some (.int 0))) w nc ns) : Ev d m_Ch_oldest 7 [o0] [] w nc ns Q := by
  refine ev_iconst 0 d_Ch_oldest_7 (by decide) ?_
  refine ev_goto 22 d_Ch_oldest_8 (by decide) ?_
  exact ev_iret d_Ch_oldest_22 rfl rfl hq
theorem t_Ch_oldest_11 {d : Nat} {st : List Value} {a0 : Nat} {fsb : List Value} {w : qk_W} {nc ns : Nat} {Q : Option Value ⊕ Nat → qk_W → Nat → Nat → Prop}  (hb : wo w a0 2 fsb) (h8 : ((.ref a0 :: st).map fun v => Value.category v).sum ≤ 8) (k : Ev d m_Ch_firstOfRing 0 [some (.ref a0)] [] w nc ns (fun r w1 nc1 ns1 => match r with | .inl v => Ev (d + 1) m_Ch_oldest 16 [some (.ref a0)] (v.toList ++ (.ref a0 :: st)) w1 nc1 ns1 Q | .inr x => Q (.inr x) w1 nc1 ns1)) : Ev (d + 1) m_Ch_oldest 11 [some (.ref a0)] st w nc ns Q := by
  refine ev_aload_n d_Ch_oldest_11 rfl rfl ?_
  refine ev_aload_n d_Ch_oldest_12 rfl rfl ?_
  exact ev_call (M' := m_Ch_firstOfRing) (As := [.ref a0]) (st := (.ref a0 :: st)) d_Ch_oldest_13 i_Ch_firstOfRing (fun h => absurd h (by decide +kernel)) cw_Ch_43 rfl rfl ⟨hb.1, 2, _, _, hb.2, rfl, rfl⟩ rfl (Nat.le_of_ble_eq_true rfl) h8 k
theorem t_Ch_oldest_16 {d : Nat} {st : List Value} {o0 : Option Value} {y0 : Int32} {b1 : Nat} {fsb : List Value} {w : qk_W} {nc ns : Nat} {Q : Option Value ⊕ Nat → qk_W → Nat → Nat → Prop}  (hb : wo w b1 2 fsb) (h8 : (st.map fun v => Value.category v).sum ≤ 8) (k : Ev d m_Ch_packet 0 [some (.ref b1), some (.int y0), none] [] w nc ns (fun r w1 nc1 ns1 => match r with | .inl v => Ev (d + 1) m_Ch_oldest 19 [o0] (v.toList ++ st) w1 nc1 ns1 Q | .inr x => Q (.inr x) w1 nc1 ns1)) : Ev (d + 1) m_Ch_oldest 16 [o0] (.int y0 :: .ref b1 :: st) w nc ns Q := by
  exact ev_call (M' := m_Ch_packet) (As := [.ref b1, .int y0]) (st := st) d_Ch_oldest_16 i_Ch_packet (fun h => absurd h (by decide +kernel)) cw_Ch_47 rfl rfl ⟨hb.1, 2, _, _, hb.2, rfl, rfl⟩ rfl (Nat.le_of_ble_eq_true rfl) h8 k
theorem t_Ch_oldest_19 {d : Nat} {o0 : Option Value} {b0 : Nat} {fs2 : List Value} {n4 : Int32} {w : qk_W} {nc ns : Nat} {Q : Option Value ⊕ Nat → qk_W → Nat → Nat → Prop}  (hw1 : wo w b0 7 fs2) (hf3 : fs2[1]? = some (.int n4)) (hq : Q (.inl (some (.int n4))) w nc ns) : Ev d m_Ch_oldest 19 [o0] [.ref b0] w nc ns Q := by
  refine ev_getf d_Ch_oldest_19 fl_Ch_51 hw1.1 hw1.2 hf3 ?_
  exact ev_iret d_Ch_oldest_22 rfl rfl hq
/-! Ch_sendAsked -/
theorem cw_Ch_86 : qk_cw "QuakeLink$Channel" m_Ns_next.1 (.invokevirtual 86) := ⟨(lw_i2 _ (List.mem_of_getElem? (i := 103) rfl)), (lw_i2 _ (List.mem_of_getElem? (i := 48) rfl)), (lw_i2 _ (List.mem_of_getElem? (i := 49) rfl))⟩
theorem cw_Ch_93 : qk_cw "QuakeLink$Channel" m_Ch_sendEmpty.1 (.invokevirtual 93) := ⟨(lw_i2 _ (List.mem_of_getElem? (i := 104) rfl)), (lw_i2 _ (List.mem_of_getElem? (i := 106) rfl)), (lw_i0 _ (List.mem_of_getElem? (i := 7) rfl))⟩
theorem cw_Ch_97 : qk_cw "QuakeLink$Channel" m_Ns_exclude.1 (.invokevirtual 97) := ⟨(lw_i2 _ (List.mem_of_getElem? (i := 108) rfl)), (lw_i2 _ (List.mem_of_getElem? (i := 109) rfl)), (lw_i2 _ (List.mem_of_getElem? (i := 110) rfl))⟩
theorem cw_Ch_100 : qk_cw "QuakeLink$Channel" m_Ch_packetWith.1 (.invokevirtual 100) := ⟨(lw_i2 _ (List.mem_of_getElem? (i := 116) rfl)), (lw_i2 _ (List.mem_of_getElem? (i := 118) rfl)), (lw_i0 _ (List.mem_of_getElem? (i := 8) rfl))⟩
theorem fl_Ch_103 : qk_fl "QuakeLink$Channel" 103 7 2 := ⟨_, rfl, by decide, rfl, (lw_i2 _ (List.mem_of_getElem? (i := 12) rfl))⟩
theorem d_Ch_sendAsked_0 : decode m_Ch_sendAsked.2.1 0 = .ok (.aload_n 0, 1) := by decide +kernel
theorem d_Ch_sendAsked_1 : decode m_Ch_sendAsked.2.1 1 = .ok (.getfield 12, 3) := by decide +kernel
theorem d_Ch_sendAsked_4 : decode m_Ch_sendAsked.2.1 4 = .ok (.iconst 0, 1) := by decide +kernel
theorem d_Ch_sendAsked_5 : decode m_Ch_sendAsked.2.1 5 = .ok (.iconst 1, 1) := by decide +kernel
theorem d_Ch_sendAsked_6 : decode m_Ch_sendAsked.2.1 6 = .ok (.invokevirtual 86, 3) := by decide +kernel
theorem d_Ch_sendAsked_9 : decode m_Ch_sendAsked.2.1 9 = .ok (.istore_n 2, 1) := by decide +kernel
theorem d_Ch_sendAsked_10 : decode m_Ch_sendAsked.2.1 10 = .ok (.aload_n 0, 1) := by decide +kernel
theorem d_Ch_sendAsked_11 : decode m_Ch_sendAsked.2.1 11 = .ok (.invokevirtual 90, 3) := by decide +kernel
theorem d_Ch_sendAsked_14 : decode m_Ch_sendAsked.2.1 14 = .ok (.istore_n 3, 1) := by decide +kernel
theorem d_Ch_sendAsked_15 : decode m_Ch_sendAsked.2.1 15 = .ok (.iload_n 2, 1) := by decide +kernel
theorem d_Ch_sendAsked_16 : decode m_Ch_sendAsked.2.1 16 = .ok (.iload_n 3, 1) := by decide +kernel
theorem d_Ch_sendAsked_17 : decode m_Ch_sendAsked.2.1 17 = .ok (.if_icmp .ge 22, 3) := by decide +kernel
theorem d_Ch_sendAsked_20 : decode m_Ch_sendAsked.2.1 20 = .ok (.aload_n 0, 1) := by decide +kernel
theorem d_Ch_sendAsked_21 : decode m_Ch_sendAsked.2.1 21 = .ok (.aload_n 1, 1) := by decide +kernel
theorem d_Ch_sendAsked_22 : decode m_Ch_sendAsked.2.1 22 = .ok (.invokevirtual 93, 3) := by decide +kernel
theorem d_Ch_sendAsked_25 : decode m_Ch_sendAsked.2.1 25 = .ok (.aload_n 0, 1) := by decide +kernel
theorem d_Ch_sendAsked_26 : decode m_Ch_sendAsked.2.1 26 = .ok (.getfield 12, 3) := by decide +kernel
theorem d_Ch_sendAsked_29 : decode m_Ch_sendAsked.2.1 29 = .ok (.iconst 0, 1) := by decide +kernel
theorem d_Ch_sendAsked_30 : decode m_Ch_sendAsked.2.1 30 = .ok (.iload_n 3, 1) := by decide +kernel
theorem d_Ch_sendAsked_31 : decode m_Ch_sendAsked.2.1 31 = .ok (.iconst 1, 1) := by decide +kernel
theorem d_Ch_sendAsked_32 : decode m_Ch_sendAsked.2.1 32 = .ok (.isub, 1) := by decide +kernel
theorem d_Ch_sendAsked_33 : decode m_Ch_sendAsked.2.1 33 = .ok (.invokevirtual 97, 3) := by decide +kernel
theorem d_Ch_sendAsked_36 : decode m_Ch_sendAsked.2.1 36 = .ok (.goto 42, 3) := by decide +kernel
theorem d_Ch_sendAsked_39 : decode m_Ch_sendAsked.2.1 39 = .ok (.aload_n 0, 1) := by decide +kernel
theorem d_Ch_sendAsked_40 : decode m_Ch_sendAsked.2.1 40 = .ok (.iload_n 2, 1) := by decide +kernel
theorem d_Ch_sendAsked_41 : decode m_Ch_sendAsked.2.1 41 = .ok (.invokevirtual 100, 3) := by decide +kernel
theorem d_Ch_sendAsked_44 : decode m_Ch_sendAsked.2.1 44 = .ok (.astore 4, 2) := by decide +kernel
theorem d_Ch_sendAsked_46 : decode m_Ch_sendAsked.2.1 46 = .ok (.aload_n 0, 1) := by decide +kernel
theorem d_Ch_sendAsked_47 : decode m_Ch_sendAsked.2.1 47 = .ok (.aload 4, 2) := by decide +kernel
theorem d_Ch_sendAsked_49 : decode m_Ch_sendAsked.2.1 49 = .ok (.aload_n 1, 1) := by decide +kernel
theorem d_Ch_sendAsked_50 : decode m_Ch_sendAsked.2.1 50 = .ok (.invokevirtual 79, 3) := by decide +kernel
theorem d_Ch_sendAsked_53 : decode m_Ch_sendAsked.2.1 53 = .ok (.aload_n 0, 1) := by decide +kernel
theorem d_Ch_sendAsked_54 : decode m_Ch_sendAsked.2.1 54 = .ok (.getfield 12, 3) := by decide +kernel
theorem d_Ch_sendAsked_57 : decode m_Ch_sendAsked.2.1 57 = .ok (.aload 4, 2) := by decide +kernel
theorem d_Ch_sendAsked_59 : decode m_Ch_sendAsked.2.1 59 = .ok (.getfield 51, 3) := by decide +kernel
theorem d_Ch_sendAsked_62 : decode m_Ch_sendAsked.2.1 62 = .ok (.aload 4, 2) := by decide +kernel
theorem d_Ch_sendAsked_64 : decode m_Ch_sendAsked.2.1 64 = .ok (.getfield 51, 3) := by decide +kernel
theorem d_Ch_sendAsked_67 : decode m_Ch_sendAsked.2.1 67 = .ok (.aload 4, 2) := by decide +kernel
theorem d_Ch_sendAsked_69 : decode m_Ch_sendAsked.2.1 69 = .ok (.getfield 103, 3) := by decide +kernel
theorem d_Ch_sendAsked_72 : decode m_Ch_sendAsked.2.1 72 = .ok (.iadd, 1) := by decide +kernel
theorem d_Ch_sendAsked_73 : decode m_Ch_sendAsked.2.1 73 = .ok (.iconst 1, 1) := by decide +kernel
theorem d_Ch_sendAsked_74 : decode m_Ch_sendAsked.2.1 74 = .ok (.isub, 1) := by decide +kernel
theorem d_Ch_sendAsked_75 : decode m_Ch_sendAsked.2.1 75 = .ok (.invokevirtual 97, 3) := by decide +kernel
theorem d_Ch_sendAsked_78 : decode m_Ch_sendAsked.2.1 78 = .ok (.return_, 1) := by decide +kernel
theorem t_Ch_sendAsked_0 {d : Nat} {st : List Value} {a0 : Nat} {o1 : Option Value} {o2 : Option Value} {o3 : Option Value} {o4 : Option Value} {fs2 : List Value} {c4 : Nat} {fsb : List Value} {w : qk_W} {nc ns : Nat} {Q : Option Value ⊕ Nat → qk_W → Nat → Nat → Prop}  (hw1 : wo w a0 2 fs2) (hf3 : fs2[0]? = some (.ref c4)) (hb : wo w c4 3 fsb) (h8 : (st.map fun v => Value.category v).sum ≤ 8) (k : Ev d m_Ns_next 0 [some (.ref c4), some (.int 0), some (.int 1), none, none, none, none] [] w nc ns (fun r w1 nc1 ns1 => match r with | .inl v => Ev (d + 1) m_Ch_sendAsked 9 [some (.ref a0), o1, o2, o3, o4] (v.toList ++ st) w1 nc1 ns1 Q | .inr x => Q (.inr x) w1 nc1 ns1)) : Ev (d + 1) m_Ch_sendAsked 0 [some (.ref a0), o1, o2, o3, o4] st w nc ns Q := by
  refine ev_aload_n d_Ch_sendAsked_0 rfl rfl ?_
  refine ev_getf d_Ch_sendAsked_1 fl_Ch_12 hw1.1 hw1.2 hf3 ?_
  refine ev_iconst 0 d_Ch_sendAsked_4 (by decide) ?_
  refine ev_iconst 1 d_Ch_sendAsked_5 (by decide) ?_
  exact ev_call (M' := m_Ns_next) (As := [.ref c4, .int 0, .int 1]) (st := st) d_Ch_sendAsked_6 i_Ns_next (fun h => absurd h (by decide +kernel)) cw_Ch_86 rfl rfl ⟨hb.1, 3, _, _, hb.2, rfl, rfl⟩ rfl (Nat.le_of_ble_eq_true rfl) h8 k
theorem t_Ch_sendAsked_9 {d : Nat} {st : List Value} {a0 : Nat} {o1 : Option Value} {o2 : Option Value} {o3 : Option Value} {o4 : Option Value} {y0 : Int32} {fsb : List Value} {w : qk_W} {nc ns : Nat} {Q : Option Value ⊕ Nat → qk_W → Nat → Nat → Prop}  (hc1 : qk_c2 [some (.ref a0), o1, o2, o3, o4] 2 = true) (hb : wo w a0 2 fsb) (h8 : (st.map fun v => Value.category v).sum ≤ 8) (k : Ev d m_Ch_oldest 0 [some (.ref a0)] [] w nc ns (fun r w1 nc1 ns1 => match r with | .inl v => Ev (d + 1) m_Ch_sendAsked 14 [some (.ref a0), o1, some (.int y0), o3, o4] (v.toList ++ st) w1 nc1 ns1 Q | .inr x => Q (.inr x) w1 nc1 ns1)) : Ev (d + 1) m_Ch_sendAsked 9 [some (.ref a0), o1, o2, o3, o4] (.int y0 :: st) w nc ns Q := by
  refine ev_istore_n d_Ch_sendAsked_9 (by decide) hc1 ?_
  refine ev_aload_n d_Ch_sendAsked_10 rfl rfl ?_
  exact ev_call (M' := m_Ch_oldest) (As := [.ref a0]) (st := st) d_Ch_sendAsked_11 i_Ch_oldest (fun h => absurd h (by decide +kernel)) cw_Ch_90 rfl rfl ⟨hb.1, 2, _, _, hb.2, rfl, rfl⟩ rfl (Nat.le_of_ble_eq_true rfl) h8 k
theorem t_Ch_sendAsked_14 {d : Nat} {st : List Value} {o0 : Option Value} {o1 : Option Value} {x2 : Int32} {o3 : Option Value} {o4 : Option Value} {y0 : Int32} {w : qk_W} {nc ns : Nat} {Q : Option Value ⊕ Nat → qk_W → Nat → Nat → Prop}  (hc1 : qk_c2 [o0, o1, some (.int x2), o3, o4] 3 = true) (kt : y0 ≤ x2 → Ev d m_Ch_sendAsked 39 [o0, o1, some (.int x2), some (.int y0), o4] st w nc ns Q) (kf : ¬ (y0 ≤ x2) → Ev d m_Ch_sendAsked 20 [o0, o1, some (.int x2), some (.int y0), o4] st w nc ns Q) : Ev d m_Ch_sendAsked 14 [o0, o1, some (.int x2), o3, o4] (.int y0 :: st) w nc ns Q := by
  refine ev_istore_n d_Ch_sendAsked_14 (by decide) hc1 ?_
  refine ev_iload_n d_Ch_sendAsked_15 rfl ?_
  refine ev_iload_n d_Ch_sendAsked_16 rfl ?_
  exact ev_icmp_ge 39 d_Ch_sendAsked_17 (by decide) kt kf
theorem t_Ch_sendAsked_20 {d : Nat} {st : List Value} {a0 : Nat} {a1 : Nat} {o2 : Option Value} {o3 : Option Value} {o4 : Option Value} {fsb : List Value} {w : qk_W} {nc ns : Nat} {Q : Option Value ⊕ Nat → qk_W → Nat → Nat → Prop}  (hb : wo w a0 2 fsb) (h8 : (st.map fun v => Value.category v).sum ≤ 8) (k : Ev d m_Ch_sendEmpty 0 [some (.ref a0), some (.ref a1), none] [] w nc ns (fun r w1 nc1 ns1 => match r with | .inl v => Ev (d + 1) m_Ch_sendAsked 25 [some (.ref a0), some (.ref a1), o2, o3, o4] (v.toList ++ st) w1 nc1 ns1 Q | .inr x => Q (.inr x) w1 nc1 ns1)) : Ev (d + 1) m_Ch_sendAsked 20 [some (.ref a0), some (.ref a1), o2, o3, o4] st w nc ns Q := by
  refine ev_aload_n d_Ch_sendAsked_20 rfl rfl ?_
  refine ev_aload_n d_Ch_sendAsked_21 rfl rfl ?_
  exact ev_call (M' := m_Ch_sendEmpty) (As := [.ref a0, .ref a1]) (st := st) d_Ch_sendAsked_22 i_Ch_sendEmpty (fun h => absurd h (by decide +kernel)) cw_Ch_93 rfl rfl ⟨hb.1, 2, _, _, hb.2, rfl, rfl⟩ rfl (Nat.le_of_ble_eq_true rfl) h8 k
theorem t_Ch_sendAsked_25 {d : Nat} {st : List Value} {a0 : Nat} {o1 : Option Value} {o2 : Option Value} {x3 : Int32} {o4 : Option Value} {fs2 : List Value} {c4 : Nat} {fsb : List Value} {w : qk_W} {nc ns : Nat} {Q : Option Value ⊕ Nat → qk_W → Nat → Nat → Prop}  (hw1 : wo w a0 2 fs2) (hf3 : fs2[0]? = some (.ref c4)) (hb : wo w c4 3 fsb) (h8 : (st.map fun v => Value.category v).sum ≤ 8) (k : Ev d m_Ns_exclude 0 [some (.ref c4), some (.int 0), some (.int (x3 - 1)), none, none, none, none] [] w nc ns (fun r w1 nc1 ns1 => match r with | .inl v => Ev (d + 1) m_Ch_sendAsked 36 [some (.ref a0), o1, o2, some (.int x3), o4] (v.toList ++ st) w1 nc1 ns1 Q | .inr x => Q (.inr x) w1 nc1 ns1)) : Ev (d + 1) m_Ch_sendAsked 25 [some (.ref a0), o1, o2, some (.int x3), o4] st w nc ns Q := by
  refine ev_aload_n d_Ch_sendAsked_25 rfl rfl ?_
  refine ev_getf d_Ch_sendAsked_26 fl_Ch_12 hw1.1 hw1.2 hf3 ?_
  refine ev_iconst 0 d_Ch_sendAsked_29 (by decide) ?_
  refine ev_iload_n d_Ch_sendAsked_30 rfl ?_
  refine ev_iconst 1 d_Ch_sendAsked_31 (by decide) ?_
  refine ev_isub d_Ch_sendAsked_32 ?_
  exact ev_call (M' := m_Ns_exclude) (As := [.ref c4, .int 0, .int (x3 - 1)]) (st := st) d_Ch_sendAsked_33 i_Ns_exclude (fun h => absurd h (by decide +kernel)) cw_Ch_97 rfl rfl ⟨hb.1, 3, _, _, hb.2, rfl, rfl⟩ rfl (Nat.le_of_ble_eq_true rfl) h8 k
theorem t_Ch_sendAsked_36 {d : Nat} {o0 : Option Value} {o1 : Option Value} {o2 : Option Value} {o3 : Option Value} {o4 : Option Value} {w : qk_W} {nc ns : Nat} {Q : Option Value ⊕ Nat → qk_W → Nat → Nat → Prop}   (hq : Q (.inl none) w nc ns) : Ev d m_Ch_sendAsked 36 [o0, o1, o2, o3, o4] [] w nc ns Q := by
  refine ev_goto 78 d_Ch_sendAsked_36 (by decide) ?_
  exact ev_vret d_Ch_sendAsked_78 rfl hq
theorem t_Ch_sendAsked_39 {d : Nat} {st : List Value} {a0 : Nat} {o1 : Option Value} {x2 : Int32} {o3 : Option Value} {o4 : Option Value} {fsb : List Value} {w : qk_W} {nc ns : Nat} {Q : Option Value ⊕ Nat → qk_W → Nat → Nat → Prop}  (hb : wo w a0 2 fsb) (h8 : (st.map fun v => Value.category v).sum ≤ 8) (k : Ev d m_Ch_packetWith 0 [some (.ref a0), some (.int x2), none] [] w nc ns (fun r w1 nc1 ns1 => match r with | .inl v => Ev (d + 1) m_Ch_sendAsked 44 [some (.ref a0), o1, some (.int x2), o3, o4] (v.toList ++ st) w1 nc1 ns1 Q | .inr x => Q (.inr x) w1 nc1 ns1)) : Ev (d + 1) m_Ch_sendAsked 39 [some (.ref a0), o1, some (.int x2), o3, o4] st w nc ns Q := by
  refine ev_aload_n d_Ch_sendAsked_39 rfl rfl ?_
  refine ev_iload_n d_Ch_sendAsked_40 rfl ?_
  exact ev_call (M' := m_Ch_packetWith) (As := [.ref a0, .int x2]) (st := st) d_Ch_sendAsked_41 i_Ch_packetWith (fun h => absurd h (by decide +kernel)) cw_Ch_100 rfl rfl ⟨hb.1, 2, _, _, hb.2, rfl, rfl⟩ rfl (Nat.le_of_ble_eq_true rfl) h8 k
theorem t_Ch_sendAsked_44 {d : Nat} {st : List Value} {a0 : Nat} {a1 : Nat} {o2 : Option Value} {o3 : Option Value} {o4 : Option Value} {b0 : Nat} {fsb : List Value} {w : qk_W} {nc ns : Nat} {Q : Option Value ⊕ Nat → qk_W → Nat → Nat → Prop}  (hc1 : qk_c2 [some (.ref a0), some (.ref a1), o2, o3, o4] 4 = true) (hb : wo w a0 2 fsb) (h8 : (st.map fun v => Value.category v).sum ≤ 8) (k : Ev d m_Ch_send 0 [some (.ref a0), some (.ref b0), some (.ref a1), none] [] w nc ns (fun r w1 nc1 ns1 => match r with | .inl v => Ev (d + 1) m_Ch_sendAsked 53 [some (.ref a0), some (.ref a1), o2, o3, some (.ref b0)] (v.toList ++ st) w1 nc1 ns1 Q | .inr x => Q (.inr x) w1 nc1 ns1)) : Ev (d + 1) m_Ch_sendAsked 44 [some (.ref a0), some (.ref a1), o2, o3, o4] (.ref b0 :: st) w nc ns Q := by
  refine ev_astore d_Ch_sendAsked_44 rfl (by decide) hc1 ?_
  refine ev_aload_n d_Ch_sendAsked_46 rfl rfl ?_
  refine ev_aload d_Ch_sendAsked_47 rfl rfl ?_
  refine ev_aload_n d_Ch_sendAsked_49 rfl rfl ?_
  exact ev_call (M' := m_Ch_send) (As := [.ref a0, .ref b0, .ref a1]) (st := st) d_Ch_sendAsked_50 i_Ch_send (fun h => absurd h (by decide +kernel)) cw_Ch_79 rfl rfl ⟨hb.1, 2, _, _, hb.2, rfl, rfl⟩ rfl (Nat.le_of_ble_eq_true rfl) h8 k
theorem t_Ch_sendAsked_53 {d : Nat} {st : List Value} {a0 : Nat} {o1 : Option Value} {o2 : Option Value} {o3 : Option Value} {a4 : Nat} {fs2 : List Value} {c4 : Nat} {fs6 : List Value} {n8 : Int32} {n15 : Int32} {fsb : List Value} {w : qk_W} {nc ns : Nat} {Q : Option Value ⊕ Nat → qk_W → Nat → Nat → Prop}  (hw1 : wo w a0 2 fs2) (hf3 : fs2[0]? = some (.ref c4)) (hw5 : wo w a4 7 fs6) (hf7 : fs6[1]? = some (.int n8)) (hf14 : fs6[2]? = some (.int n15)) (hb : wo w c4 3 fsb) (h8 : (st.map fun v => Value.category v).sum ≤ 8) (k : Ev d m_Ns_exclude 0 [some (.ref c4), some (.int n8), some (.int ((n8 + n15) - 1)), none, none, none, none] [] w nc ns (fun r w1 nc1 ns1 => match r with | .inl v => Ev (d + 1) m_Ch_sendAsked 78 [some (.ref a0), o1, o2, o3, some (.ref a4)] (v.toList ++ st) w1 nc1 ns1 Q | .inr x => Q (.inr x) w1 nc1 ns1)) : Ev (d + 1) m_Ch_sendAsked 53 [some (.ref a0), o1, o2, o3, some (.ref a4)] st w nc ns Q := by
  refine ev_aload_n d_Ch_sendAsked_53 rfl rfl ?_
  refine ev_getf d_Ch_sendAsked_54 fl_Ch_12 hw1.1 hw1.2 hf3 ?_
  refine ev_aload d_Ch_sendAsked_57 rfl rfl ?_
  refine ev_getf d_Ch_sendAsked_59 fl_Ch_51 hw5.1 hw5.2 hf7 ?_
  refine ev_aload d_Ch_sendAsked_62 rfl rfl ?_
  refine ev_getf d_Ch_sendAsked_64 fl_Ch_51 hw5.1 hw5.2 hf7 ?_
  refine ev_aload d_Ch_sendAsked_67 rfl rfl ?_
  refine ev_getf d_Ch_sendAsked_69 fl_Ch_103 hw5.1 hw5.2 hf14 ?_
  refine ev_iadd d_Ch_sendAsked_72 ?_
  refine ev_iconst 1 d_Ch_sendAsked_73 (by decide) ?_
  refine ev_isub d_Ch_sendAsked_74 ?_
  exact ev_call (M' := m_Ns_exclude) (As := [.ref c4, .int n8, .int ((n8 + n15) - 1)]) (st := st) d_Ch_sendAsked_75 i_Ns_exclude (fun h => absurd h (by decide +kernel)) cw_Ch_97 rfl rfl ⟨hb.1, 3, _, _, hb.2, rfl, rfl⟩ rfl (Nat.le_of_ble_eq_true rfl) h8 k
theorem t_Ch_sendAsked_78 {d : Nat} {o0 : Option Value} {o1 : Option Value} {o2 : Option Value} {o3 : Option Value} {o4 : Option Value} {w : qk_W} {nc ns : Nat} {Q : Option Value ⊕ Nat → qk_W → Nat → Nat → Prop}   (hq : Q (.inl none) w nc ns) : Ev d m_Ch_sendAsked 78 [o0, o1, o2, o3, o4] [] w nc ns Q := by
  exact ev_vret d_Ch_sendAsked_78 rfl hq
/-! Ch_sendEmpty -/
theorem d_Ch_sendEmpty_0 : decode m_Ch_sendEmpty.2.1 0 = .ok (.aload_n 1, 1) := by decide +kernel
theorem d_Ch_sendEmpty_1 : decode m_Ch_sendEmpty.2.1 1 = .ok (.bipush 24, 2) := by decide +kernel
theorem d_Ch_sendEmpty_3 : decode m_Ch_sendEmpty.2.1 3 = .ok (.invokevirtual 133, 3) := by decide +kernel
theorem d_Ch_sendEmpty_6 : decode m_Ch_sendEmpty.2.1 6 = .ok (.astore_n 2, 1) := by decide +kernel
theorem d_Ch_sendEmpty_7 : decode m_Ch_sendEmpty.2.1 7 = .ok (.aload_n 2, 1) := by decide +kernel
theorem d_Ch_sendEmpty_8 : decode m_Ch_sendEmpty.2.1 8 = .ok (.iconst 0, 1) := by decide +kernel
theorem d_Ch_sendEmpty_9 : decode m_Ch_sendEmpty.2.1 9 = .ok (.iconst 1, 1) := by decide +kernel
theorem d_Ch_sendEmpty_10 : decode m_Ch_sendEmpty.2.1 10 = .ok (.aload_n 0, 1) := by decide +kernel
theorem d_Ch_sendEmpty_11 : decode m_Ch_sendEmpty.2.1 11 = .ok (.getfield 24, 3) := by decide +kernel
theorem d_Ch_sendEmpty_14 : decode m_Ch_sendEmpty.2.1 14 = .ok (.invokevirtual 143, 3) := by decide +kernel
theorem d_Ch_sendEmpty_17 : decode m_Ch_sendEmpty.2.1 17 = .ok (.aload_n 2, 1) := by decide +kernel
theorem d_Ch_sendEmpty_18 : decode m_Ch_sendEmpty.2.1 18 = .ok (.iconst 1, 1) := by decide +kernel
theorem d_Ch_sendEmpty_19 : decode m_Ch_sendEmpty.2.1 19 = .ok (.iconst 1, 1) := by decide +kernel
theorem d_Ch_sendEmpty_20 : decode m_Ch_sendEmpty.2.1 20 = .ok (.iconst 0, 1) := by decide +kernel
theorem d_Ch_sendEmpty_21 : decode m_Ch_sendEmpty.2.1 21 = .ok (.invokevirtual 143, 3) := by decide +kernel
theorem d_Ch_sendEmpty_24 : decode m_Ch_sendEmpty.2.1 24 = .ok (.aload_n 2, 1) := by decide +kernel
theorem d_Ch_sendEmpty_25 : decode m_Ch_sendEmpty.2.1 25 = .ok (.iconst 2, 1) := by decide +kernel
theorem d_Ch_sendEmpty_26 : decode m_Ch_sendEmpty.2.1 26 = .ok (.iconst 2, 1) := by decide +kernel
theorem d_Ch_sendEmpty_27 : decode m_Ch_sendEmpty.2.1 27 = .ok (.iconst 0, 1) := by decide +kernel
theorem d_Ch_sendEmpty_28 : decode m_Ch_sendEmpty.2.1 28 = .ok (.invokevirtual 143, 3) := by decide +kernel
theorem d_Ch_sendEmpty_31 : decode m_Ch_sendEmpty.2.1 31 = .ok (.aload_n 2, 1) := by decide +kernel
theorem d_Ch_sendEmpty_32 : decode m_Ch_sendEmpty.2.1 32 = .ok (.iconst 4, 1) := by decide +kernel
theorem d_Ch_sendEmpty_33 : decode m_Ch_sendEmpty.2.1 33 = .ok (.iconst 4, 1) := by decide +kernel
theorem d_Ch_sendEmpty_34 : decode m_Ch_sendEmpty.2.1 34 = .ok (.aload_n 0, 1) := by decide +kernel
theorem d_Ch_sendEmpty_35 : decode m_Ch_sendEmpty.2.1 35 = .ok (.invokevirtual 90, 3) := by decide +kernel
theorem d_Ch_sendEmpty_38 : decode m_Ch_sendEmpty.2.1 38 = .ok (.invokevirtual 143, 3) := by decide +kernel
theorem d_Ch_sendEmpty_41 : decode m_Ch_sendEmpty.2.1 41 = .ok (.aload_n 2, 1) := by decide +kernel
theorem d_Ch_sendEmpty_42 : decode m_Ch_sendEmpty.2.1 42 = .ok (.bipush 8, 2) := by decide +kernel
theorem d_Ch_sendEmpty_44 : decode m_Ch_sendEmpty.2.1 44 = .ok (.iconst 4, 1) := by decide +kernel
theorem d_Ch_sendEmpty_45 : decode m_Ch_sendEmpty.2.1 45 = .ok (.iconst 0, 1) := by decide +kernel
theorem d_Ch_sendEmpty_46 : decode m_Ch_sendEmpty.2.1 46 = .ok (.invokevirtual 143, 3) := by decide +kernel
theorem d_Ch_sendEmpty_49 : decode m_Ch_sendEmpty.2.1 49 = .ok (.aload_n 2, 1) := by decide +kernel
theorem d_Ch_sendEmpty_50 : decode m_Ch_sendEmpty.2.1 50 = .ok (.bipush 12, 2) := by decide +kernel
theorem d_Ch_sendEmpty_52 : decode m_Ch_sendEmpty.2.1 52 = .ok (.iconst 4, 1) := by decide +kernel
theorem d_Ch_sendEmpty_53 : decode m_Ch_sendEmpty.2.1 53 = .ok (.iconst 0, 1) := by decide +kernel
theorem d_Ch_sendEmpty_54 : decode m_Ch_sendEmpty.2.1 54 = .ok (.invokevirtual 143, 3) := by decide +kernel
theorem d_Ch_sendEmpty_57 : decode m_Ch_sendEmpty.2.1 57 = .ok (.aload_n 2, 1) := by decide +kernel
theorem d_Ch_sendEmpty_58 : decode m_Ch_sendEmpty.2.1 58 = .ok (.bipush 16, 2) := by decide +kernel
theorem d_Ch_sendEmpty_60 : decode m_Ch_sendEmpty.2.1 60 = .ok (.iconst 4, 1) := by decide +kernel
theorem d_Ch_sendEmpty_61 : decode m_Ch_sendEmpty.2.1 61 = .ok (.iconst 0, 1) := by decide +kernel
theorem d_Ch_sendEmpty_62 : decode m_Ch_sendEmpty.2.1 62 = .ok (.invokevirtual 143, 3) := by decide +kernel
theorem d_Ch_sendEmpty_65 : decode m_Ch_sendEmpty.2.1 65 = .ok (.aload_n 2, 1) := by decide +kernel
theorem d_Ch_sendEmpty_66 : decode m_Ch_sendEmpty.2.1 66 = .ok (.invokevirtual 146, 3) := by decide +kernel
theorem d_Ch_sendEmpty_69 : decode m_Ch_sendEmpty.2.1 69 = .ok (.return_, 1) := by decide +kernel
theorem t_Ch_sendEmpty_0 {d : Nat} {st : List Value} {o0 : Option Value} {a1 : Nat} {o2 : Option Value} {fsb : List Value} {w : qk_W} {nc ns : Nat} {Q : Option Value ⊕ Nat → qk_W → Nat → Nat → Prop}  (hb : wo w a1 4 fsb) (h8 : (st.map fun v => Value.category v).sum ≤ 8) (k : Ev d m_Ai_add 0 [some (.ref a1), some (.int 24), none] [] w nc ns (fun r w1 nc1 ns1 => match r with | .inl v => Ev (d + 1) m_Ch_sendEmpty 6 [o0, some (.ref a1), o2] (v.toList ++ st) w1 nc1 ns1 Q | .inr x => Q (.inr x) w1 nc1 ns1)) : Ev (d + 1) m_Ch_sendEmpty 0 [o0, some (.ref a1), o2] st w nc ns Q := by
  refine ev_aload_n d_Ch_sendEmpty_0 rfl rfl ?_
  refine ev_bipush 24 d_Ch_sendEmpty_1 (by decide) ?_
  exact ev_call (M' := m_Ai_add) (As := [.ref a1, .int 24]) (st := st) d_Ch_sendEmpty_3 i_Ai_add (fun h => absurd h (by decide +kernel)) cw_Ch_133 rfl rfl ⟨hb.1, 4, _, _, hb.2, rfl, rfl⟩ rfl (Nat.le_of_ble_eq_true rfl) h8 k
theorem t_Ch_sendEmpty_6 {d : Nat} {st : List Value} {a0 : Nat} {o1 : Option Value} {o2 : Option Value} {b0 : Nat} {fs3 : List Value} {n5 : Int32} {fsb : List Value} {w : qk_W} {nc ns : Nat} {Q : Option Value ⊕ Nat → qk_W → Nat → Nat → Prop}  (hc1 : qk_c2 [some (.ref a0), o1, o2] 2 = true) (hw2 : wo w a0 2 fs3) (hf4 : fs3[2]? = some (.int n5)) (hb : wo w b0 8 fsb) (h8 : (st.map fun v => Value.category v).sum ≤ 8) (k : Ev d m_Me_put 0 [some (.ref b0), some (.int 0), some (.int 1), some (.int n5), none] [] w nc ns (fun r w1 nc1 ns1 => match r with | .inl v => Ev (d + 1) m_Ch_sendEmpty 17 [some (.ref a0), o1, some (.ref b0)] (v.toList ++ st) w1 nc1 ns1 Q | .inr x => Q (.inr x) w1 nc1 ns1)) : Ev (d + 1) m_Ch_sendEmpty 6 [some (.ref a0), o1, o2] (.ref b0 :: st) w nc ns Q := by
  refine ev_astore_n d_Ch_sendEmpty_6 rfl (by decide) hc1 ?_
  refine ev_aload_n d_Ch_sendEmpty_7 rfl rfl ?_
  refine ev_iconst 0 d_Ch_sendEmpty_8 (by decide) ?_
  refine ev_iconst 1 d_Ch_sendEmpty_9 (by decide) ?_
  refine ev_aload_n d_Ch_sendEmpty_10 rfl rfl ?_
  refine ev_getf d_Ch_sendEmpty_11 fl_Ch_24 hw2.1 hw2.2 hf4 ?_
  exact ev_call (M' := m_Me_put) (As := [.ref b0, .int 0, .int 1, .int n5]) (st := st) d_Ch_sendEmpty_14 i_Me_put (fun h => absurd h (by decide +kernel)) cw_Ch_143 rfl rfl ⟨hb.1, 8, _, _, hb.2, rfl, rfl⟩ rfl (Nat.le_of_ble_eq_true rfl) h8 k
theorem t_Ch_sendEmpty_17 {d : Nat} {st : List Value} {o0 : Option Value} {o1 : Option Value} {a2 : Nat} {fsb : List Value} {w : qk_W} {nc ns : Nat} {Q : Option Value ⊕ Nat → qk_W → Nat → Nat → Prop}  (hb : wo w a2 8 fsb) (h8 : (st.map fun v => Value.category v).sum ≤ 8) (k : Ev d m_Me_put 0 [some (.ref a2), some (.int 1), some (.int 1), some (.int 0), none] [] w nc ns (fun r w1 nc1 ns1 => match r with | .inl v => Ev (d + 1) m_Ch_sendEmpty 24 [o0, o1, some (.ref a2)] (v.toList ++ st) w1 nc1 ns1 Q | .inr x => Q (.inr x) w1 nc1 ns1)) : Ev (d + 1) m_Ch_sendEmpty 17 [o0, o1, some (.ref a2)] st w nc ns Q := by
  refine ev_aload_n d_Ch_sendEmpty_17 rfl rfl ?_
  refine ev_iconst 1 d_Ch_sendEmpty_18 (by decide) ?_
  refine ev_iconst 1 d_Ch_sendEmpty_19 (by decide) ?_
  refine ev_iconst 0 d_Ch_sendEmpty_20 (by decide) ?_
  exact ev_call (M' := m_Me_put) (As := [.ref a2, .int 1, .int 1, .int 0]) (st := st) d_Ch_sendEmpty_21 i_Me_put (fun h => absurd h (by decide +kernel)) cw_Ch_143 rfl rfl ⟨hb.1, 8, _, _, hb.2, rfl, rfl⟩ rfl (Nat.le_of_ble_eq_true rfl) h8 k
theorem t_Ch_sendEmpty_24 {d : Nat} {st : List Value} {o0 : Option Value} {o1 : Option Value} {a2 : Nat} {fsb : List Value} {w : qk_W} {nc ns : Nat} {Q : Option Value ⊕ Nat → qk_W → Nat → Nat → Prop}  (hb : wo w a2 8 fsb) (h8 : (st.map fun v => Value.category v).sum ≤ 8) (k : Ev d m_Me_put 0 [some (.ref a2), some (.int 2), some (.int 2), some (.int 0), none] [] w nc ns (fun r w1 nc1 ns1 => match r with | .inl v => Ev (d + 1) m_Ch_sendEmpty 31 [o0, o1, some (.ref a2)] (v.toList ++ st) w1 nc1 ns1 Q | .inr x => Q (.inr x) w1 nc1 ns1)) : Ev (d + 1) m_Ch_sendEmpty 24 [o0, o1, some (.ref a2)] st w nc ns Q := by
  refine ev_aload_n d_Ch_sendEmpty_24 rfl rfl ?_
  refine ev_iconst 2 d_Ch_sendEmpty_25 (by decide) ?_
  refine ev_iconst 2 d_Ch_sendEmpty_26 (by decide) ?_
  refine ev_iconst 0 d_Ch_sendEmpty_27 (by decide) ?_
  exact ev_call (M' := m_Me_put) (As := [.ref a2, .int 2, .int 2, .int 0]) (st := st) d_Ch_sendEmpty_28 i_Me_put (fun h => absurd h (by decide +kernel)) cw_Ch_143 rfl rfl ⟨hb.1, 8, _, _, hb.2, rfl, rfl⟩ rfl (Nat.le_of_ble_eq_true rfl) h8 k
theorem t_Ch_sendEmpty_31 {d : Nat} {st : List Value} {a0 : Nat} {o1 : Option Value} {v2 : Value} {fsb : List Value} {w : qk_W} {nc ns : Nat} {Q : Option Value ⊕ Nat → qk_W → Nat → Nat → Prop} (hv2 : qk_isr v2 = true) (hb : wo w a0 2 fsb) (h8 : ((.int 4 :: .int 4 :: v2 :: st).map fun v => Value.category v).sum ≤ 8) (k : Ev d m_Ch_oldest 0 [some (.ref a0)] [] w nc ns (fun r w1 nc1 ns1 => match r with | .inl v => Ev (d + 1) m_Ch_sendEmpty 38 [some (.ref a0), o1, some v2] (v.toList ++ (.int 4 :: .int 4 :: v2 :: st)) w1 nc1 ns1 Q | .inr x => Q (.inr x) w1 nc1 ns1)) : Ev (d + 1) m_Ch_sendEmpty 31 [some (.ref a0), o1, some v2] st w nc ns Q := by
  refine ev_aload_n d_Ch_sendEmpty_31 rfl hv2 ?_
  refine ev_iconst 4 d_Ch_sendEmpty_32 (by decide) ?_
  refine ev_iconst 4 d_Ch_sendEmpty_33 (by decide) ?_
  refine ev_aload_n d_Ch_sendEmpty_34 rfl rfl ?_
  exact ev_call (M' := m_Ch_oldest) (As := [.ref a0]) (st := (.int 4 :: .int 4 :: v2 :: st)) d_Ch_sendEmpty_35 i_Ch_oldest (fun h => absurd h (by decide +kernel)) cw_Ch_90 rfl rfl ⟨hb.1, 2, _, _, hb.2, rfl, rfl⟩ rfl (Nat.le_of_ble_eq_true rfl) h8 k
theorem t_Ch_sendEmpty_38 {d : Nat} {st : List Value} {o0 : Option Value} {o1 : Option Value} {o2 : Option Value} {y0 : Int32} {y1 : Int32} {y2 : Int32} {b3 : Nat} {fsb : List Value} {w : qk_W} {nc ns : Nat} {Q : Option Value ⊕ Nat → qk_W → Nat → Nat → Prop}  (hb : wo w b3 8 fsb) (h8 : (st.map fun v => Value.category v).sum ≤ 8) (k : Ev d m_Me_put 0 [some (.ref b3), some (.int y2), some (.int y1), some (.int y0), none] [] w nc ns (fun r w1 nc1 ns1 => match r with | .inl v => Ev (d + 1) m_Ch_sendEmpty 41 [o0, o1, o2] (v.toList ++ st) w1 nc1 ns1 Q | .inr x => Q (.inr x) w1 nc1 ns1)) : Ev (d + 1) m_Ch_sendEmpty 38 [o0, o1, o2] (.int y0 :: .int y1 :: .int y2 :: .ref b3 :: st) w nc ns Q := by
  exact ev_call (M' := m_Me_put) (As := [.ref b3, .int y2, .int y1, .int y0]) (st := st) d_Ch_sendEmpty_38 i_Me_put (fun h => absurd h (by decide +kernel)) cw_Ch_143 rfl rfl ⟨hb.1, 8, _, _, hb.2, rfl, rfl⟩ rfl (Nat.le_of_ble_eq_true rfl) h8 k
theorem t_Ch_sendEmpty_41 {d : Nat} {st : List Value} {o0 : Option Value} {o1 : Option Value} {a2 : Nat} {fsb : List Value} {w : qk_W} {nc ns : Nat} {Q : Option Value ⊕ Nat → qk_W → Nat → Nat → Prop}  (hb : wo w a2 8 fsb) (h8 : (st.map fun v => Value.category v).sum ≤ 8) (k : Ev d m_Me_put 0 [some (.ref a2), some (.int 8), some (.int 4), some (.int 0), none] [] w nc ns (fun r w1 nc1 ns1 => match r with | .inl v => Ev (d + 1) m_Ch_sendEmpty 49 [o0, o1, some (.ref a2)] (v.toList ++ st) w1 nc1 ns1 Q | .inr x => Q (.inr x) w1 nc1 ns1)) : Ev (d + 1) m_Ch_sendEmpty 41 [o0, o1, some (.ref a2)] st w nc ns Q := by
  refine ev_aload_n d_Ch_sendEmpty_41 rfl rfl ?_
  refine ev_bipush 8 d_Ch_sendEmpty_42 (by decide) ?_
  refine ev_iconst 4 d_Ch_sendEmpty_44 (by decide) ?_
  refine ev_iconst 0 d_Ch_sendEmpty_45 (by decide) ?_
  exact ev_call (M' := m_Me_put) (As := [.ref a2, .int 8, .int 4, .int 0]) (st := st) d_Ch_sendEmpty_46 i_Me_put (fun h => absurd h (by decide +kernel)) cw_Ch_143 rfl rfl ⟨hb.1, 8, _, _, hb.2, rfl, rfl⟩ rfl (Nat.le_of_ble_eq_true rfl) h8 k
theorem t_Ch_sendEmpty_49 {d : Nat} {st : List Value} {o0 : Option Value} {o1 : Option Value} {a2 : Nat} {fsb : List Value} {w : qk_W} {nc ns : Nat} {Q : Option Value ⊕ Nat → qk_W → Nat → Nat → Prop}  (hb : wo w a2 8 fsb) (h8 : (st.map fun v => Value.category v).sum ≤ 8) (k : Ev d m_Me_put 0 [some (.ref a2), some (.int 12), some (.int 4), some (.int 0), none] [] w nc ns (fun r w1 nc1 ns1 => match r with | .inl v => Ev (d + 1) m_Ch_sendEmpty 57 [o0, o1, some (.ref a2)] (v.toList ++ st) w1 nc1 ns1 Q | .inr x => Q (.inr x) w1 nc1 ns1)) : Ev (d + 1) m_Ch_sendEmpty 49 [o0, o1, some (.ref a2)] st w nc ns Q := by
  refine ev_aload_n d_Ch_sendEmpty_49 rfl rfl ?_
  refine ev_bipush 12 d_Ch_sendEmpty_50 (by decide) ?_
  refine ev_iconst 4 d_Ch_sendEmpty_52 (by decide) ?_
  refine ev_iconst 0 d_Ch_sendEmpty_53 (by decide) ?_
  exact ev_call (M' := m_Me_put) (As := [.ref a2, .int 12, .int 4, .int 0]) (st := st) d_Ch_sendEmpty_54 i_Me_put (fun h => absurd h (by decide +kernel)) cw_Ch_143 rfl rfl ⟨hb.1, 8, _, _, hb.2, rfl, rfl⟩ rfl (Nat.le_of_ble_eq_true rfl) h8 k
theorem t_Ch_sendEmpty_57 {d : Nat} {st : List Value} {o0 : Option Value} {o1 : Option Value} {a2 : Nat} {fsb : List Value} {w : qk_W} {nc ns : Nat} {Q : Option Value ⊕ Nat → qk_W → Nat → Nat → Prop}  (hb : wo w a2 8 fsb) (h8 : (st.map fun v => Value.category v).sum ≤ 8) (k : Ev d m_Me_put 0 [some (.ref a2), some (.int 16), some (.int 4), some (.int 0), none] [] w nc ns (fun r w1 nc1 ns1 => match r with | .inl v => Ev (d + 1) m_Ch_sendEmpty 65 [o0, o1, some (.ref a2)] (v.toList ++ st) w1 nc1 ns1 Q | .inr x => Q (.inr x) w1 nc1 ns1)) : Ev (d + 1) m_Ch_sendEmpty 57 [o0, o1, some (.ref a2)] st w nc ns Q := by
  refine ev_aload_n d_Ch_sendEmpty_57 rfl rfl ?_
  refine ev_bipush 16 d_Ch_sendEmpty_58 (by decide) ?_
  refine ev_iconst 4 d_Ch_sendEmpty_60 (by decide) ?_
  refine ev_iconst 0 d_Ch_sendEmpty_61 (by decide) ?_
  exact ev_call (M' := m_Me_put) (As := [.ref a2, .int 16, .int 4, .int 0]) (st := st) d_Ch_sendEmpty_62 i_Me_put (fun h => absurd h (by decide +kernel)) cw_Ch_143 rfl rfl ⟨hb.1, 8, _, _, hb.2, rfl, rfl⟩ rfl (Nat.le_of_ble_eq_true rfl) h8 k
theorem t_Ch_sendEmpty_65 {d : Nat} {st : List Value} {o0 : Option Value} {o1 : Option Value} {a2 : Nat} {fsb : List Value} {w : qk_W} {nc ns : Nat} {Q : Option Value ⊕ Nat → qk_W → Nat → Nat → Prop}  (hb : wo w a2 8 fsb) (h8 : (st.map fun v => Value.category v).sum ≤ 8) (k : Ev d m_Me_seal 0 [some (.ref a2)] [] w nc ns (fun r w1 nc1 ns1 => match r with | .inl v => Ev (d + 1) m_Ch_sendEmpty 69 [o0, o1, some (.ref a2)] (v.toList ++ st) w1 nc1 ns1 Q | .inr x => Q (.inr x) w1 nc1 ns1)) : Ev (d + 1) m_Ch_sendEmpty 65 [o0, o1, some (.ref a2)] st w nc ns Q := by
  refine ev_aload_n d_Ch_sendEmpty_65 rfl rfl ?_
  exact ev_call (M' := m_Me_seal) (As := [.ref a2]) (st := st) d_Ch_sendEmpty_66 i_Me_seal (fun h => absurd h (by decide +kernel)) cw_Ch_146 rfl rfl ⟨hb.1, 8, _, _, hb.2, rfl, rfl⟩ rfl (Nat.le_of_ble_eq_true rfl) h8 k
theorem t_Ch_sendEmpty_69 {d : Nat} {o0 : Option Value} {o1 : Option Value} {o2 : Option Value} {w : qk_W} {nc ns : Nat} {Q : Option Value ⊕ Nat → qk_W → Nat → Nat → Prop}   (hq : Q (.inl none) w nc ns) : Ev d m_Ch_sendEmpty 69 [o0, o1, o2] [] w nc ns Q := by
  exact ev_vret d_Ch_sendEmpty_69 rfl hq
/-! Ch_packetWith -/
theorem d_Ch_packetWith_0 : decode m_Ch_packetWith.2.1 0 = .ok (.aload_n 0, 1) := by decide +kernel
theorem d_Ch_packetWith_1 : decode m_Ch_packetWith.2.1 1 = .ok (.invokevirtual 43, 3) := by decide +kernel
theorem d_Ch_packetWith_4 : decode m_Ch_packetWith.2.1 4 = .ok (.istore_n 2, 1) := by decide +kernel
theorem d_Ch_packetWith_5 : decode m_Ch_packetWith.2.1 5 = .ok (.iload_n 2, 1) := by decide +kernel
theorem d_Ch_packetWith_6 : decode m_Ch_packetWith.2.1 6 = .ok (.aload_n 0, 1) := by decide +kernel
theorem d_Ch_packetWith_7 : decode m_Ch_packetWith.2.1 7 = .ok (.getfield 34, 3) := by decide +kernel
theorem d_Ch_packetWith_10 : decode m_Ch_packetWith.2.1 10 = .ok (.iconst 1, 1) := by decide +kernel
theorem d_Ch_packetWith_11 : decode m_Ch_packetWith.2.1 11 = .ok (.isub, 1) := by decide +kernel
theorem d_Ch_packetWith_12 : decode m_Ch_packetWith.2.1 12 = .ok (.if_icmp .ge 23, 3) := by decide +kernel
theorem d_Ch_packetWith_15 : decode m_Ch_packetWith.2.1 15 = .ok (.iload_n 1, 1) := by decide +kernel
theorem d_Ch_packetWith_16 : decode m_Ch_packetWith.2.1 16 = .ok (.aload_n 0, 1) := by decide +kernel
theorem d_Ch_packetWith_17 : decode m_Ch_packetWith.2.1 17 = .ok (.iload_n 2, 1) := by decide +kernel
theorem d_Ch_packetWith_18 : decode m_Ch_packetWith.2.1 18 = .ok (.iconst 1, 1) := by decide +kernel
theorem d_Ch_packetWith_19 : decode m_Ch_packetWith.2.1 19 = .ok (.iadd, 1) := by decide +kernel
theorem d_Ch_packetWith_20 : decode m_Ch_packetWith.2.1 20 = .ok (.invokevirtual 47, 3) := by decide +kernel
theorem d_Ch_packetWith_23 : decode m_Ch_packetWith.2.1 23 = .ok (.getfield 51, 3) := by decide +kernel
theorem d_Ch_packetWith_26 : decode m_Ch_packetWith.2.1 26 = .ok (.if_icmp .lt 9, 3) := by decide +kernel
theorem d_Ch_packetWith_29 : decode m_Ch_packetWith.2.1 29 = .ok (.iinc 2 1, 3) := by decide +kernel
theorem d_Ch_packetWith_32 : decode m_Ch_packetWith.2.1 32 = .ok (.goto (-27), 3) := by decide +kernel
theorem d_Ch_packetWith_35 : decode m_Ch_packetWith.2.1 35 = .ok (.aload_n 0, 1) := by decide +kernel
theorem d_Ch_packetWith_36 : decode m_Ch_packetWith.2.1 36 = .ok (.iload_n 2, 1) := by decide +kernel
theorem d_Ch_packetWith_37 : decode m_Ch_packetWith.2.1 37 = .ok (.invokevirtual 47, 3) := by decide +kernel
theorem d_Ch_packetWith_40 : decode m_Ch_packetWith.2.1 40 = .ok (.areturn, 1) := by decide +kernel
theorem t_Ch_packetWith_0 {d : Nat} {st : List Value} {a0 : Nat} {o1 : Option Value} {o2 : Option Value} {fsb : List Value} {w : qk_W} {nc ns : Nat} {Q : Option Value ⊕ Nat → qk_W → Nat → Nat → Prop}  (hb : wo w a0 2 fsb) (h8 : (st.map fun v => Value.category v).sum ≤ 8) (k : Ev d m_Ch_firstOfRing 0 [some (.ref a0)] [] w nc ns (fun r w1 nc1 ns1 => match r with | .inl v => Ev (d + 1) m_Ch_packetWith 4 [some (.ref a0), o1, o2] (v.toList ++ st) w1 nc1 ns1 Q | .inr x => Q (.inr x) w1 nc1 ns1)) : Ev (d + 1) m_Ch_packetWith 0 [some (.ref a0), o1, o2] st w nc ns Q := by
  refine ev_aload_n d_Ch_packetWith_0 rfl rfl ?_
  exact ev_call (M' := m_Ch_firstOfRing) (As := [.ref a0]) (st := st) d_Ch_packetWith_1 i_Ch_firstOfRing (fun h => absurd h (by decide +kernel)) cw_Ch_43 rfl rfl ⟨hb.1, 2, _, _, hb.2, rfl, rfl⟩ rfl (Nat.le_of_ble_eq_true rfl) h8 k
theorem t_Ch_packetWith_4 {d : Nat} {st : List Value} {o0 : Option Value} {o1 : Option Value} {o2 : Option Value} {y0 : Int32} {w : qk_W} {nc ns : Nat} {Q : Option Value ⊕ Nat → qk_W → Nat → Nat → Prop}  (hc1 : qk_c2 [o0, o1, o2] 2 = true) (k : Ev d m_Ch_packetWith 5 [o0, o1, some (.int y0)] st w nc ns Q) : Ev d m_Ch_packetWith 4 [o0, o1, o2] (.int y0 :: st) w nc ns Q := by
  refine ev_istore_n d_Ch_packetWith_4 (by decide) hc1 ?_
  exact k
theorem t_Ch_packetWith_5 {d : Nat} {st : List Value} {a0 : Nat} {o1 : Option Value} {x2 : Int32} {fs2 : List Value} {n4 : Int32} {w : qk_W} {nc ns : Nat} {Q : Option Value ⊕ Nat → qk_W → Nat → Nat → Prop}  (hw1 : wo w a0 2 fs2) (hf3 : fs2[4]? = some (.int n4)) (kt : (n4 - 1) ≤ x2 → Ev d m_Ch_packetWith 35 [some (.ref a0), o1, some (.int x2)] st w nc ns Q) (kf : ¬ ((n4 - 1) ≤ x2) → Ev d m_Ch_packetWith 15 [some (.ref a0), o1, some (.int x2)] st w nc ns Q) : Ev d m_Ch_packetWith 5 [some (.ref a0), o1, some (.int x2)] st w nc ns Q := by
  refine ev_iload_n d_Ch_packetWith_5 rfl ?_
  refine ev_aload_n d_Ch_packetWith_6 rfl rfl ?_
  refine ev_getf d_Ch_packetWith_7 fl_Ch_34 hw1.1 hw1.2 hf3 ?_
  refine ev_iconst 1 d_Ch_packetWith_10 (by decide) ?_
  refine ev_isub d_Ch_packetWith_11 ?_
  exact ev_icmp_ge 35 d_Ch_packetWith_12 (by decide) kt kf
theorem t_Ch_packetWith_15 {d : Nat} {st : List Value} {a0 : Nat} {x1 : Int32} {x2 : Int32} {fsb : List Value} {w : qk_W} {nc ns : Nat} {Q : Option Value ⊕ Nat → qk_W → Nat → Nat → Prop}  (hb : wo w a0 2 fsb) (h8 : ((.int x1 :: st).map fun v => Value.category v).sum ≤ 8) (k : Ev d m_Ch_packet 0 [some (.ref a0), some (.int (x2 + 1)), none] [] w nc ns (fun r w1 nc1 ns1 => match r with | .inl v => Ev (d + 1) m_Ch_packetWith 23 [some (.ref a0), some (.int x1), some (.int x2)] (v.toList ++ (.int x1 :: st)) w1 nc1 ns1 Q | .inr x => Q (.inr x) w1 nc1 ns1)) : Ev (d + 1) m_Ch_packetWith 15 [some (.ref a0), some (.int x1), some (.int x2)] st w nc ns Q := by
  refine ev_iload_n d_Ch_packetWith_15 rfl ?_
  refine ev_aload_n d_Ch_packetWith_16 rfl rfl ?_
  refine ev_iload_n d_Ch_packetWith_17 rfl ?_
  refine ev_iconst 1 d_Ch_packetWith_18 (by decide) ?_
  refine ev_iadd d_Ch_packetWith_19 ?_
  exact ev_call (M' := m_Ch_packet) (As := [.ref a0, .int (x2 + 1)]) (st := (.int x1 :: st)) d_Ch_packetWith_20 i_Ch_packet (fun h => absurd h (by decide +kernel)) cw_Ch_47 rfl rfl ⟨hb.1, 2, _, _, hb.2, rfl, rfl⟩ rfl (Nat.le_of_ble_eq_true rfl) h8 k
theorem t_Ch_packetWith_23 {d : Nat} {st : List Value} {o0 : Option Value} {o1 : Option Value} {o2 : Option Value} {b0 : Nat} {y1 : Int32} {fs2 : List Value} {n4 : Int32} {w : qk_W} {nc ns : Nat} {Q : Option Value ⊕ Nat → qk_W → Nat → Nat → Prop}  (hw1 : wo w b0 7 fs2) (hf3 : fs2[1]? = some (.int n4)) (kt : y1 < n4 → Ev d m_Ch_packetWith 35 [o0, o1, o2] st w nc ns Q) (kf : ¬ (y1 < n4) → Ev d m_Ch_packetWith 29 [o0, o1, o2] st w nc ns Q) : Ev d m_Ch_packetWith 23 [o0, o1, o2] (.ref b0 :: .int y1 :: st) w nc ns Q := by
  refine ev_getf d_Ch_packetWith_23 fl_Ch_51 hw1.1 hw1.2 hf3 ?_
  exact ev_icmp_lt 35 d_Ch_packetWith_26 (by decide) kt kf
theorem t_Ch_packetWith_29 {d : Nat} {st : List Value} {o0 : Option Value} {o1 : Option Value} {x2 : Int32} {w : qk_W} {nc ns : Nat} {Q : Option Value ⊕ Nat → qk_W → Nat → Nat → Prop}  (hc1 : qk_c2 [o0, o1, some (.int x2)] 2 = true) (k : Ev d m_Ch_packetWith 5 [o0, o1, some (.int (x2 + 1))] st w nc ns Q) : Ev d m_Ch_packetWith 29 [o0, o1, some (.int x2)] st w nc ns Q := by
  refine ev_iinc 1 d_Ch_packetWith_29 (by decide) rfl (by decide) hc1 ?_
  refine ev_goto 5 d_Ch_packetWith_32 (by decide) ?_
  exact k
theorem t_Ch_packetWith_35 {d : Nat} {st : List Value} {a0 : Nat} {o1 : Option Value} {x2 : Int32} {fsb : List Value} {w : qk_W} {nc ns : Nat} {Q : Option Value ⊕ Nat → qk_W → Nat → Nat → Prop}  (hb : wo w a0 2 fsb) (h8 : (st.map fun v => Value.category v).sum ≤ 8) (k : Ev d m_Ch_packet 0 [some (.ref a0), some (.int x2), none] [] w nc ns (fun r w1 nc1 ns1 => match r with | .inl v => Ev (d + 1) m_Ch_packetWith 40 [some (.ref a0), o1, some (.int x2)] (v.toList ++ st) w1 nc1 ns1 Q | .inr x => Q (.inr x) w1 nc1 ns1)) : Ev (d + 1) m_Ch_packetWith 35 [some (.ref a0), o1, some (.int x2)] st w nc ns Q := by
  refine ev_aload_n d_Ch_packetWith_35 rfl rfl ?_
  refine ev_iload_n d_Ch_packetWith_36 rfl ?_
  exact ev_call (M' := m_Ch_packet) (As := [.ref a0, .int x2]) (st := st) d_Ch_packetWith_37 i_Ch_packet (fun h => absurd h (by decide +kernel)) cw_Ch_47 rfl rfl ⟨hb.1, 2, _, _, hb.2, rfl, rfl⟩ rfl (Nat.le_of_ble_eq_true rfl) h8 k
theorem t_Ch_packetWith_40 {d : Nat} {o0 : Option Value} {o1 : Option Value} {o2 : Option Value} {s0 : Value} {w : qk_W} {nc ns : Nat} {Q : Option Value ⊕ Nat → qk_W → Nat → Nat → Prop} (hs0 : qk_isr s0 = true)  (hq : Q (.inl (some (s0))) w nc ns) : Ev d m_Ch_packetWith 40 [o0, o1, o2] [s0] w nc ns Q := by
  exact ev_aret d_Ch_packetWith_40 rfl hs0 hq
/-! Ch_mustCloseBefore -/
theorem cw_Ch_54 : qk_cw "QuakeLink$Channel" m_Ch_inOpen.1 (.invokevirtual 54) := ⟨(lw_i3 _ (List.mem_of_getElem? (i := 19) rfl)), (lw_i3 _ (List.mem_of_getElem? (i := 20) rfl)), (lw_i3 _ (List.mem_of_getElem? (i := 21) rfl))⟩
theorem cw_Ch_57 : qk_cw "QuakeLink$Channel" m_Pa_fits.1 (.invokevirtual 57) := ⟨(lw_i3 _ (List.mem_of_getElem? (i := 23) rfl)), (lw_i3 _ (List.mem_of_getElem? (i := 24) rfl)), (lw_i3 _ (List.mem_of_getElem? (i := 25) rfl))⟩
theorem d_Ch_mustCloseBefore_0 : decode m_Ch_mustCloseBefore.2.1 0 = .ok (.aload_n 0, 1) := by decide +kernel
theorem d_Ch_mustCloseBefore_1 : decode m_Ch_mustCloseBefore.2.1 1 = .ok (.invokevirtual 54, 3) := by decide +kernel
theorem d_Ch_mustCloseBefore_4 : decode m_Ch_mustCloseBefore.2.1 4 = .ok (.ifCond .le 22, 3) := by decide +kernel
theorem d_Ch_mustCloseBefore_7 : decode m_Ch_mustCloseBefore.2.1 7 = .ok (.aload_n 0, 1) := by decide +kernel
theorem d_Ch_mustCloseBefore_8 : decode m_Ch_mustCloseBefore.2.1 8 = .ok (.aload_n 0, 1) := by decide +kernel
theorem d_Ch_mustCloseBefore_9 : decode m_Ch_mustCloseBefore.2.1 9 = .ok (.getfield 34, 3) := by decide +kernel
theorem d_Ch_mustCloseBefore_12 : decode m_Ch_mustCloseBefore.2.1 12 = .ok (.invokevirtual 47, 3) := by decide +kernel
theorem d_Ch_mustCloseBefore_15 : decode m_Ch_mustCloseBefore.2.1 15 = .ok (.iload_n 1, 1) := by decide +kernel
theorem d_Ch_mustCloseBefore_16 : decode m_Ch_mustCloseBefore.2.1 16 = .ok (.invokevirtual 57, 3) := by decide +kernel
theorem d_Ch_mustCloseBefore_19 : decode m_Ch_mustCloseBefore.2.1 19 = .ok (.ifCond .ne 7, 3) := by decide +kernel
theorem d_Ch_mustCloseBefore_22 : decode m_Ch_mustCloseBefore.2.1 22 = .ok (.iconst 1, 1) := by decide +kernel
theorem d_Ch_mustCloseBefore_23 : decode m_Ch_mustCloseBefore.2.1 23 = .ok (.goto 4, 3) := by decide +kernel
theorem d_Ch_mustCloseBefore_26 : decode m_Ch_mustCloseBefore.2.1 26 = .ok (.iconst 0, 1) := by decide +kernel
theorem d_Ch_mustCloseBefore_27 : decode m_Ch_mustCloseBefore.2.1 27 = .ok (.ireturn, 1) := by decide +kernel
theorem t_Ch_mustCloseBefore_0 {d : Nat} {st : List Value} {a0 : Nat} {o1 : Option Value} {fsb : List Value} {w : qk_W} {nc ns : Nat} {Q : Option Value ⊕ Nat → qk_W → Nat → Nat → Prop}  (hb : wo w a0 2 fsb) (h8 : (st.map fun v => Value.category v).sum ≤ 8) (k : Ev d m_Ch_inOpen 0 [some (.ref a0)] [] w nc ns (fun r w1 nc1 ns1 => match r with | .inl v => Ev (d + 1) m_Ch_mustCloseBefore 4 [some (.ref a0), o1] (v.toList ++ st) w1 nc1 ns1 Q | .inr x => Q (.inr x) w1 nc1 ns1)) : Ev (d + 1) m_Ch_mustCloseBefore 0 [some (.ref a0), o1] st w nc ns Q := by
  refine ev_aload_n d_Ch_mustCloseBefore_0 rfl rfl ?_
  exact ev_call (M' := m_Ch_inOpen) (As := [.ref a0]) (st := st) d_Ch_mustCloseBefore_1 i_Ch_inOpen (fun h => absurd h (by decide +kernel)) cw_Ch_54 rfl rfl ⟨hb.1, 2, _, _, hb.2, rfl, rfl⟩ rfl (Nat.le_of_ble_eq_true rfl) h8 k
theorem t_Ch_mustCloseBefore_4 {d : Nat} {st : List Value} {o0 : Option Value} {o1 : Option Value} {y0 : Int32} {w : qk_W} {nc ns : Nat} {Q : Option Value ⊕ Nat → qk_W → Nat → Nat → Prop}   (kt : y0 ≤ 0 → Ev d m_Ch_mustCloseBefore 26 [o0, o1] st w nc ns Q) (kf : ¬ (y0 ≤ 0) → Ev d m_Ch_mustCloseBefore 7 [o0, o1] st w nc ns Q) : Ev d m_Ch_mustCloseBefore 4 [o0, o1] (.int y0 :: st) w nc ns Q := by
  exact ev_if_le 26 d_Ch_mustCloseBefore_4 (by decide) kt kf
theorem t_Ch_mustCloseBefore_7 {d : Nat} {st : List Value} {a0 : Nat} {o1 : Option Value} {fs2 : List Value} {n4 : Int32} {w : qk_W} {nc ns : Nat} {Q : Option Value ⊕ Nat → qk_W → Nat → Nat → Prop}  (hw1 : wo w a0 2 fs2) (hf3 : fs2[4]? = some (.int n4)) (h8 : (st.map fun v => Value.category v).sum ≤ 8) (k : Ev d m_Ch_packet 0 [some (.ref a0), some (.int n4), none] [] w nc ns (fun r w1 nc1 ns1 => match r with | .inl v => Ev (d + 1) m_Ch_mustCloseBefore 15 [some (.ref a0), o1] (v.toList ++ st) w1 nc1 ns1 Q | .inr x => Q (.inr x) w1 nc1 ns1)) : Ev (d + 1) m_Ch_mustCloseBefore 7 [some (.ref a0), o1] st w nc ns Q := by
  refine ev_aload_n d_Ch_mustCloseBefore_7 rfl rfl ?_
  refine ev_aload_n d_Ch_mustCloseBefore_8 rfl rfl ?_
  refine ev_getf d_Ch_mustCloseBefore_9 fl_Ch_34 hw1.1 hw1.2 hf3 ?_
  exact ev_call (M' := m_Ch_packet) (As := [.ref a0, .int n4]) (st := st) d_Ch_mustCloseBefore_12 i_Ch_packet (fun h => absurd h (by decide +kernel)) cw_Ch_47 rfl rfl ⟨hw1.1, 2, _, _, hw1.2, rfl, rfl⟩ rfl (Nat.le_of_ble_eq_true rfl) h8 k
theorem t_Ch_mustCloseBefore_15 {d : Nat} {st : List Value} {o0 : Option Value} {x1 : Int32} {b0 : Nat} {fsb : List Value} {w : qk_W} {nc ns : Nat} {Q : Option Value ⊕ Nat → qk_W → Nat → Nat → Prop}  (hb : wo w b0 7 fsb) (h8 : (st.map fun v => Value.category v).sum ≤ 8) (k : Ev d m_Pa_fits 0 [some (.ref b0), some (.int x1), none] [] w nc ns (fun r w1 nc1 ns1 => match r with | .inl v => Ev (d + 1) m_Ch_mustCloseBefore 19 [o0, some (.int x1)] (v.toList ++ st) w1 nc1 ns1 Q | .inr x => Q (.inr x) w1 nc1 ns1)) : Ev (d + 1) m_Ch_mustCloseBefore 15 [o0, some (.int x1)] (.ref b0 :: st) w nc ns Q := by
  refine ev_iload_n d_Ch_mustCloseBefore_15 rfl ?_
  exact ev_call (M' := m_Pa_fits) (As := [.ref b0, .int x1]) (st := st) d_Ch_mustCloseBefore_16 i_Pa_fits (fun h => absurd h (by decide +kernel)) cw_Ch_57 rfl rfl ⟨hb.1, 7, _, _, hb.2, rfl, rfl⟩ rfl (Nat.le_of_ble_eq_true rfl) h8 k
theorem t_Ch_mustCloseBefore_19 {d : Nat} {st : List Value} {o0 : Option Value} {o1 : Option Value} {y0 : Int32} {w : qk_W} {nc ns : Nat} {Q : Option Value ⊕ Nat → qk_W → Nat → Nat → Prop}   (kt : ¬ y0 = 0 → Ev d m_Ch_mustCloseBefore 26 [o0, o1] st w nc ns Q) (kf : y0 = 0 → Ev d m_Ch_mustCloseBefore 22 [o0, o1] st w nc ns Q) : Ev d m_Ch_mustCloseBefore 19 [o0, o1] (.int y0 :: st) w nc ns Q := by
  exact ev_if_ne 26 d_Ch_mustCloseBefore_19 (by decide) kt kf
theorem t_Ch_mustCloseBefore_22 {d : Nat} {o0 : Option Value} {o1 : Option Value} {w : qk_W} {nc ns : Nat} {Q : Option Value ⊕ Nat → qk_W → Nat → Nat → Prop}   (hq : Q (.inl (some (.int 1))) w nc ns) : Ev d m_Ch_mustCloseBefore 22 [o0, o1] [] w nc ns Q := by
  refine ev_iconst 1 d_Ch_mustCloseBefore_22 (by decide) ?_
  refine ev_goto 27 d_Ch_mustCloseBefore_23 (by decide) ?_
  exact ev_iret d_Ch_mustCloseBefore_27 rfl rfl hq
theorem t_Ch_mustCloseBefore_26 {d : Nat} {o0 : Option Value} {o1 : Option Value} {w : qk_W} {nc ns : Nat} {Q : Option Value ⊕ Nat → qk_W → Nat → Nat → Prop}   (hq : Q (.inl (some (.int 0))) w nc ns) : Ev d m_Ch_mustCloseBefore 26 [o0, o1] [] w nc ns Q := by
  refine ev_iconst 0 d_Ch_mustCloseBefore_26 (by decide) ?_
  exact ev_iret d_Ch_mustCloseBefore_27 rfl rfl hq
/-! Ch_inOpen -/
theorem fl_Ch_28 : qk_fl "QuakeLink$Channel" 28 2 1 := ⟨_, rfl, by decide, rfl, (lw_i1 _ (List.mem_of_getElem? (i := 63) rfl))⟩
theorem fl_Ch_31 : qk_fl "QuakeLink$Channel" 31 2 5 := ⟨_, rfl, by decide, rfl, (lw_i1 _ (List.mem_of_getElem? (i := 68) rfl))⟩
theorem d_Ch_inOpen_0 : decode m_Ch_inOpen.2.1 0 = .ok (.aload_n 0, 1) := by decide +kernel
theorem d_Ch_inOpen_1 : decode m_Ch_inOpen.2.1 1 = .ok (.getfield 28, 3) := by decide +kernel
theorem d_Ch_inOpen_4 : decode m_Ch_inOpen.2.1 4 = .ok (.aload_n 0, 1) := by decide +kernel
theorem d_Ch_inOpen_5 : decode m_Ch_inOpen.2.1 5 = .ok (.getfield 31, 3) := by decide +kernel
theorem d_Ch_inOpen_8 : decode m_Ch_inOpen.2.1 8 = .ok (.isub, 1) := by decide +kernel
theorem d_Ch_inOpen_9 : decode m_Ch_inOpen.2.1 9 = .ok (.ireturn, 1) := by decide +kernel
theorem t_Ch_inOpen_0 {d : Nat} {a0 : Nat} {fs2 : List Value} {n4 : Int32} {n8 : Int32} {w : qk_W} {nc ns : Nat} {Q : Option Value ⊕ Nat → qk_W → Nat → Nat → Prop}  (hw1 : wo w a0 2 fs2) (hf3 : fs2[1]? = some (.int n4)) (hf7 : fs2[5]? = some (.int n8)) (hq : Q (.inl (some (.int (n4 - n8)))) w nc ns) : Ev d m_Ch_inOpen 0 [some (.ref a0)] [] w nc ns Q := by
  refine ev_aload_n d_Ch_inOpen_0 rfl rfl ?_
  refine ev_getf d_Ch_inOpen_1 fl_Ch_28 hw1.1 hw1.2 hf3 ?_
  refine ev_aload_n d_Ch_inOpen_4 rfl rfl ?_
  refine ev_getf d_Ch_inOpen_5 fl_Ch_31 hw1.1 hw1.2 hf7 ?_
  refine ev_isub d_Ch_inOpen_8 ?_
  exact ev_iret d_Ch_inOpen_9 rfl rfl hq
/-! Ch_close -/
theorem cw_Ch_69 : qk_cw "QuakeLink$Channel" m_Pa_close.1 (.invokevirtual 69) := ⟨(lw_i3 _ (List.mem_of_getElem? (i := 47) rfl)), (lw_i3 _ (List.mem_of_getElem? (i := 48) rfl)), (lw_i3 _ (List.mem_of_getElem? (i := 49) rfl))⟩
theorem d_Ch_close_0 : decode m_Ch_close.2.1 0 = .ok (.aload_n 0, 1) := by decide +kernel
theorem d_Ch_close_1 : decode m_Ch_close.2.1 1 = .ok (.aload_n 0, 1) := by decide +kernel
theorem d_Ch_close_2 : decode m_Ch_close.2.1 2 = .ok (.getfield 34, 3) := by decide +kernel
theorem d_Ch_close_5 : decode m_Ch_close.2.1 5 = .ok (.invokevirtual 47, 3) := by decide +kernel
theorem d_Ch_close_8 : decode m_Ch_close.2.1 8 = .ok (.iload_n 1, 1) := by decide +kernel
theorem d_Ch_close_9 : decode m_Ch_close.2.1 9 = .ok (.iload_n 2, 1) := by decide +kernel
theorem d_Ch_close_10 : decode m_Ch_close.2.1 10 = .ok (.invokevirtual 69, 3) := by decide +kernel
theorem d_Ch_close_13 : decode m_Ch_close.2.1 13 = .ok (.aload_n 0, 1) := by decide +kernel
theorem d_Ch_close_14 : decode m_Ch_close.2.1 14 = .ok (.dup, 1) := by decide +kernel
theorem d_Ch_close_15 : decode m_Ch_close.2.1 15 = .ok (.getfield 34, 3) := by decide +kernel
theorem d_Ch_close_18 : decode m_Ch_close.2.1 18 = .ok (.iconst 1, 1) := by decide +kernel
theorem d_Ch_close_19 : decode m_Ch_close.2.1 19 = .ok (.iadd, 1) := by decide +kernel
theorem d_Ch_close_20 : decode m_Ch_close.2.1 20 = .ok (.putfield 34, 3) := by decide +kernel
theorem d_Ch_close_23 : decode m_Ch_close.2.1 23 = .ok (.aload_n 0, 1) := by decide +kernel
theorem d_Ch_close_24 : decode m_Ch_close.2.1 24 = .ok (.aload_n 0, 1) := by decide +kernel
theorem d_Ch_close_25 : decode m_Ch_close.2.1 25 = .ok (.getfield 28, 3) := by decide +kernel
theorem d_Ch_close_28 : decode m_Ch_close.2.1 28 = .ok (.putfield 31, 3) := by decide +kernel
theorem d_Ch_close_31 : decode m_Ch_close.2.1 31 = .ok (.return_, 1) := by decide +kernel
theorem t_Ch_close_0 {d : Nat} {st : List Value} {a0 : Nat} {o1 : Option Value} {o2 : Option Value} {fs2 : List Value} {n4 : Int32} {w : qk_W} {nc ns : Nat} {Q : Option Value ⊕ Nat → qk_W → Nat → Nat → Prop}  (hw1 : wo w a0 2 fs2) (hf3 : fs2[4]? = some (.int n4)) (h8 : (st.map fun v => Value.category v).sum ≤ 8) (k : Ev d m_Ch_packet 0 [some (.ref a0), some (.int n4), none] [] w nc ns (fun r w1 nc1 ns1 => match r with | .inl v => Ev (d + 1) m_Ch_close 8 [some (.ref a0), o1, o2] (v.toList ++ st) w1 nc1 ns1 Q | .inr x => Q (.inr x) w1 nc1 ns1)) : Ev (d + 1) m_Ch_close 0 [some (.ref a0), o1, o2] st w nc ns Q := by
  refine ev_aload_n d_Ch_close_0 rfl rfl ?_
  refine ev_aload_n d_Ch_close_1 rfl rfl ?_
  refine ev_getf d_Ch_close_2 fl_Ch_34 hw1.1 hw1.2 hf3 ?_
  exact ev_call (M' := m_Ch_packet) (As := [.ref a0, .int n4]) (st := st) d_Ch_close_5 i_Ch_packet (fun h => absurd h (by decide +kernel)) cw_Ch_47 rfl rfl ⟨hw1.1, 2, _, _, hw1.2, rfl, rfl⟩ rfl (Nat.le_of_ble_eq_true rfl) h8 k
theorem t_Ch_close_8 {d : Nat} {st : List Value} {o0 : Option Value} {x1 : Int32} {x2 : Int32} {b0 : Nat} {fsb : List Value} {w : qk_W} {nc ns : Nat} {Q : Option Value ⊕ Nat → qk_W → Nat → Nat → Prop}  (hb : wo w b0 7 fsb) (h8 : (st.map fun v => Value.category v).sum ≤ 8) (k : Ev d m_Pa_close 0 [some (.ref b0), some (.int x1), some (.int x2)] [] w nc ns (fun r w1 nc1 ns1 => match r with | .inl v => Ev (d + 1) m_Ch_close 13 [o0, some (.int x1), some (.int x2)] (v.toList ++ st) w1 nc1 ns1 Q | .inr x => Q (.inr x) w1 nc1 ns1)) : Ev (d + 1) m_Ch_close 8 [o0, some (.int x1), some (.int x2)] (.ref b0 :: st) w nc ns Q := by
  refine ev_iload_n d_Ch_close_8 rfl ?_
  refine ev_iload_n d_Ch_close_9 rfl ?_
  exact ev_call (M' := m_Pa_close) (As := [.ref b0, .int x1, .int x2]) (st := st) d_Ch_close_10 i_Pa_close (fun h => absurd h (by decide +kernel)) cw_Ch_69 rfl rfl ⟨hb.1, 7, _, _, hb.2, rfl, rfl⟩ rfl (Nat.le_of_ble_eq_true rfl) h8 k
theorem t_Ch_close_13 {d : Nat} {st : List Value} {a0 : Nat} {o1 : Option Value} {o2 : Option Value} {fs2 : List Value} {n4 : Int32} {w : qk_W} {nc ns : Nat} {Q : Option Value ⊕ Nat → qk_W → Nat → Nat → Prop}  (hw1 : wo w a0 2 fs2) (hf3 : fs2[4]? = some (.int n4)) (hk : 4 < fs2.length) (k : Ev d m_Ch_close 23 [some (.ref a0), o1, o2] st (qk_set w a0 (.inr (2, fs2.set 4 (.int (n4 + 1))))) nc ns Q) : Ev d m_Ch_close 13 [some (.ref a0), o1, o2] st w nc ns Q := by
  refine ev_aload_n d_Ch_close_13 rfl rfl ?_
  refine ev_dup d_Ch_close_14 rfl ?_
  refine ev_getf d_Ch_close_15 fl_Ch_34 hw1.1 hw1.2 hf3 ?_
  refine ev_iconst 1 d_Ch_close_18 (by decide) ?_
  refine ev_iadd d_Ch_close_19 ?_
  exact ev_putf d_Ch_close_20 fl_Ch_34 rfl hw1.1 hw1.2 hk (qk_fitI _) k
theorem t_Ch_close_23 {d : Nat} {st : List Value} {a0 : Nat} {o1 : Option Value} {o2 : Option Value} {fs2 : List Value} {n4 : Int32} {w : qk_W} {nc ns : Nat} {Q : Option Value ⊕ Nat → qk_W → Nat → Nat → Prop}  (hw1 : wo w a0 2 fs2) (hf3 : fs2[1]? = some (.int n4)) (hk : 5 < fs2.length) (k : Ev d m_Ch_close 31 [some (.ref a0), o1, o2] st (qk_set w a0 (.inr (2, fs2.set 5 (.int n4)))) nc ns Q) : Ev d m_Ch_close 23 [some (.ref a0), o1, o2] st w nc ns Q := by
  refine ev_aload_n d_Ch_close_23 rfl rfl ?_
  refine ev_aload_n d_Ch_close_24 rfl rfl ?_
  refine ev_getf d_Ch_close_25 fl_Ch_28 hw1.1 hw1.2 hf3 ?_
  exact ev_putf d_Ch_close_28 fl_Ch_31 rfl hw1.1 hw1.2 hk (qk_fitI _) k
theorem t_Ch_close_31 {d : Nat} {o0 : Option Value} {o1 : Option Value} {o2 : Option Value} {w : qk_W} {nc ns : Nat} {Q : Option Value ⊕ Nat → qk_W → Nat → Nat → Prop}   (hq : Q (.inl none) w nc ns) : Ev d m_Ch_close 31 [o0, o1, o2] [] w nc ns Q := by
  exact ev_vret d_Ch_close_31 rfl hq
/-! Ch_add -/
theorem cw_Ch_61 : qk_cw "QuakeLink$Channel" m_Pa_begin.1 (.invokevirtual 61) := ⟨(lw_i3 _ (List.mem_of_getElem? (i := 64) rfl)), (lw_i3 _ (List.mem_of_getElem? (i := 65) rfl)), (lw_i3 _ (List.mem_of_getElem? (i := 66) rfl))⟩
theorem cw_Ch_65 : qk_cw "QuakeLink$Channel" m_Pa_append.1 (.invokevirtual 65) := ⟨(lw_i3 _ (List.mem_of_getElem? (i := 68) rfl)), (lw_i3 _ (List.mem_of_getElem? (i := 69) rfl)), (lw_i3 _ (List.mem_of_getElem? (i := 70) rfl))⟩
theorem d_Ch_add_0 : decode m_Ch_add.2.1 0 = .ok (.aload_n 0, 1) := by decide +kernel
theorem d_Ch_add_1 : decode m_Ch_add.2.1 1 = .ok (.aload_n 0, 1) := by decide +kernel
theorem d_Ch_add_2 : decode m_Ch_add.2.1 2 = .ok (.getfield 34, 3) := by decide +kernel
theorem d_Ch_add_5 : decode m_Ch_add.2.1 5 = .ok (.invokevirtual 47, 3) := by decide +kernel
theorem d_Ch_add_8 : decode m_Ch_add.2.1 8 = .ok (.astore_n 2, 1) := by decide +kernel
theorem d_Ch_add_9 : decode m_Ch_add.2.1 9 = .ok (.aload_n 0, 1) := by decide +kernel
theorem d_Ch_add_10 : decode m_Ch_add.2.1 10 = .ok (.invokevirtual 54, 3) := by decide +kernel
theorem d_Ch_add_13 : decode m_Ch_add.2.1 13 = .ok (.ifCond .ne 19, 3) := by decide +kernel
theorem d_Ch_add_16 : decode m_Ch_add.2.1 16 = .ok (.aload_n 2, 1) := by decide +kernel
theorem d_Ch_add_17 : decode m_Ch_add.2.1 17 = .ok (.aload_n 0, 1) := by decide +kernel
theorem d_Ch_add_18 : decode m_Ch_add.2.1 18 = .ok (.getfield 24, 3) := by decide +kernel
theorem d_Ch_add_21 : decode m_Ch_add.2.1 21 = .ok (.aload_n 0, 1) := by decide +kernel
theorem d_Ch_add_22 : decode m_Ch_add.2.1 22 = .ok (.getfield 28, 3) := by decide +kernel
theorem d_Ch_add_25 : decode m_Ch_add.2.1 25 = .ok (.iload_n 1, 1) := by decide +kernel
theorem d_Ch_add_26 : decode m_Ch_add.2.1 26 = .ok (.invokevirtual 61, 3) := by decide +kernel
theorem d_Ch_add_29 : decode m_Ch_add.2.1 29 = .ok (.goto 8, 3) := by decide +kernel
theorem d_Ch_add_32 : decode m_Ch_add.2.1 32 = .ok (.aload_n 2, 1) := by decide +kernel
theorem d_Ch_add_33 : decode m_Ch_add.2.1 33 = .ok (.iload_n 1, 1) := by decide +kernel
theorem d_Ch_add_34 : decode m_Ch_add.2.1 34 = .ok (.invokevirtual 65, 3) := by decide +kernel
theorem d_Ch_add_37 : decode m_Ch_add.2.1 37 = .ok (.aload_n 0, 1) := by decide +kernel
theorem d_Ch_add_38 : decode m_Ch_add.2.1 38 = .ok (.dup, 1) := by decide +kernel
theorem d_Ch_add_39 : decode m_Ch_add.2.1 39 = .ok (.getfield 28, 3) := by decide +kernel
theorem d_Ch_add_42 : decode m_Ch_add.2.1 42 = .ok (.iconst 1, 1) := by decide +kernel
theorem d_Ch_add_43 : decode m_Ch_add.2.1 43 = .ok (.iadd, 1) := by decide +kernel
theorem d_Ch_add_44 : decode m_Ch_add.2.1 44 = .ok (.putfield 28, 3) := by decide +kernel
theorem d_Ch_add_47 : decode m_Ch_add.2.1 47 = .ok (.return_, 1) := by decide +kernel
theorem t_Ch_add_0 {d : Nat} {st : List Value} {a0 : Nat} {o1 : Option Value} {o2 : Option Value} {fs2 : List Value} {n4 : Int32} {w : qk_W} {nc ns : Nat} {Q : Option Value ⊕ Nat → qk_W → Nat → Nat → Prop}  (hw1 : wo w a0 2 fs2) (hf3 : fs2[4]? = some (.int n4)) (h8 : (st.map fun v => Value.category v).sum ≤ 8) (k : Ev d m_Ch_packet 0 [some (.ref a0), some (.int n4), none] [] w nc ns (fun r w1 nc1 ns1 => match r with | .inl v => Ev (d + 1) m_Ch_add 8 [some (.ref a0), o1, o2] (v.toList ++ st) w1 nc1 ns1 Q | .inr x => Q (.inr x) w1 nc1 ns1)) : Ev (d + 1) m_Ch_add 0 [some (.ref a0), o1, o2] st w nc ns Q := by
  refine ev_aload_n d_Ch_add_0 rfl rfl ?_
  refine ev_aload_n d_Ch_add_1 rfl rfl ?_
  refine ev_getf d_Ch_add_2 fl_Ch_34 hw1.1 hw1.2 hf3 ?_
  exact ev_call (M' := m_Ch_packet) (As := [.ref a0, .int n4]) (st := st) d_Ch_add_5 i_Ch_packet (fun h => absurd h (by decide +kernel)) cw_Ch_47 rfl rfl ⟨hw1.1, 2, _, _, hw1.2, rfl, rfl⟩ rfl (Nat.le_of_ble_eq_true rfl) h8 k
theorem t_Ch_add_8 {d : Nat} {st : List Value} {a0 : Nat} {o1 : Option Value} {o2 : Option Value} {s0 : Value} {fsb : List Value} {w : qk_W} {nc ns : Nat} {Q : Option Value ⊕ Nat → qk_W → Nat → Nat → Prop} (hs0 : qk_isr s0 = true) (hc1 : qk_c2 [some (.ref a0), o1, o2] 2 = true) (hb : wo w a0 2 fsb) (h8 : (st.map fun v => Value.category v).sum ≤ 8) (k : Ev d m_Ch_inOpen 0 [some (.ref a0)] [] w nc ns (fun r w1 nc1 ns1 => match r with | .inl v => Ev (d + 1) m_Ch_add 13 [some (.ref a0), o1, some s0] (v.toList ++ st) w1 nc1 ns1 Q | .inr x => Q (.inr x) w1 nc1 ns1)) : Ev (d + 1) m_Ch_add 8 [some (.ref a0), o1, o2] (s0 :: st) w nc ns Q := by
  refine ev_astore_n d_Ch_add_8 hs0 (by decide) hc1 ?_
  refine ev_aload_n d_Ch_add_9 rfl rfl ?_
  exact ev_call (M' := m_Ch_inOpen) (As := [.ref a0]) (st := st) d_Ch_add_10 i_Ch_inOpen (fun h => absurd h (by decide +kernel)) cw_Ch_54 rfl rfl ⟨hb.1, 2, _, _, hb.2, rfl, rfl⟩ rfl (Nat.le_of_ble_eq_true rfl) h8 k
theorem t_Ch_add_13 {d : Nat} {st : List Value} {o0 : Option Value} {o1 : Option Value} {o2 : Option Value} {y0 : Int32} {w : qk_W} {nc ns : Nat} {Q : Option Value ⊕ Nat → qk_W → Nat → Nat → Prop}   (kt : ¬ y0 = 0 → Ev d m_Ch_add 32 [o0, o1, o2] st w nc ns Q) (kf : y0 = 0 → Ev d m_Ch_add 16 [o0, o1, o2] st w nc ns Q) : Ev d m_Ch_add 13 [o0, o1, o2] (.int y0 :: st) w nc ns Q := by
  exact ev_if_ne 32 d_Ch_add_13 (by decide) kt kf
theorem t_Ch_add_16 {d : Nat} {st : List Value} {a0 : Nat} {x1 : Int32} {a2 : Nat} {fs2 : List Value} {n4 : Int32} {n8 : Int32} {fsb : List Value} {w : qk_W} {nc ns : Nat} {Q : Option Value ⊕ Nat → qk_W → Nat → Nat → Prop}  (hw1 : wo w a0 2 fs2) (hf3 : fs2[2]? = some (.int n4)) (hf7 : fs2[1]? = some (.int n8)) (hb : wo w a2 7 fsb) (h8 : (st.map fun v => Value.category v).sum ≤ 8) (k : Ev d m_Pa_begin 0 [some (.ref a2), some (.int n4), some (.int n8), some (.int x1)] [] w nc ns (fun r w1 nc1 ns1 => match r with | .inl v => Ev (d + 1) m_Ch_add 29 [some (.ref a0), some (.int x1), some (.ref a2)] (v.toList ++ st) w1 nc1 ns1 Q | .inr x => Q (.inr x) w1 nc1 ns1)) : Ev (d + 1) m_Ch_add 16 [some (.ref a0), some (.int x1), some (.ref a2)] st w nc ns Q := by
  refine ev_aload_n d_Ch_add_16 rfl rfl ?_
  refine ev_aload_n d_Ch_add_17 rfl rfl ?_
  refine ev_getf d_Ch_add_18 fl_Ch_24 hw1.1 hw1.2 hf3 ?_
  refine ev_aload_n d_Ch_add_21 rfl rfl ?_
  refine ev_getf d_Ch_add_22 fl_Ch_28 hw1.1 hw1.2 hf7 ?_
  refine ev_iload_n d_Ch_add_25 rfl ?_
  exact ev_call (M' := m_Pa_begin) (As := [.ref a2, .int n4, .int n8, .int x1]) (st := st) d_Ch_add_26 i_Pa_begin (fun h => absurd h (by decide +kernel)) cw_Ch_61 rfl rfl ⟨hb.1, 7, _, _, hb.2, rfl, rfl⟩ rfl (Nat.le_of_ble_eq_true rfl) h8 k
theorem t_Ch_add_29 {d : Nat} {st : List Value} {a0 : Nat} {o1 : Option Value} {o2 : Option Value} {fs2 : List Value} {n4 : Int32} {w : qk_W} {nc ns : Nat} {Q : Option Value ⊕ Nat → qk_W → Nat → Nat → Prop}  (hw1 : wo w a0 2 fs2) (hf3 : fs2[1]? = some (.int n4)) (hk : 1 < fs2.length) (k : Ev d m_Ch_add 47 [some (.ref a0), o1, o2] st (qk_set w a0 (.inr (2, fs2.set 1 (.int (n4 + 1))))) nc ns Q) : Ev d m_Ch_add 29 [some (.ref a0), o1, o2] st w nc ns Q := by
  refine ev_goto 37 d_Ch_add_29 (by decide) ?_
  refine ev_aload_n d_Ch_add_37 rfl rfl ?_
  refine ev_dup d_Ch_add_38 rfl ?_
  refine ev_getf d_Ch_add_39 fl_Ch_28 hw1.1 hw1.2 hf3 ?_
  refine ev_iconst 1 d_Ch_add_42 (by decide) ?_
  refine ev_iadd d_Ch_add_43 ?_
  exact ev_putf d_Ch_add_44 fl_Ch_28 rfl hw1.1 hw1.2 hk (qk_fitI _) k
theorem t_Ch_add_32 {d : Nat} {st : List Value} {o0 : Option Value} {x1 : Int32} {a2 : Nat} {fsb : List Value} {w : qk_W} {nc ns : Nat} {Q : Option Value ⊕ Nat → qk_W → Nat → Nat → Prop}  (hb : wo w a2 7 fsb) (h8 : (st.map fun v => Value.category v).sum ≤ 8) (k : Ev d m_Pa_append 0 [some (.ref a2), some (.int x1), none] [] w nc ns (fun r w1 nc1 ns1 => match r with | .inl v => Ev (d + 1) m_Ch_add 37 [o0, some (.int x1), some (.ref a2)] (v.toList ++ st) w1 nc1 ns1 Q | .inr x => Q (.inr x) w1 nc1 ns1)) : Ev (d + 1) m_Ch_add 32 [o0, some (.int x1), some (.ref a2)] st w nc ns Q := by
  refine ev_aload_n d_Ch_add_32 rfl rfl ?_
  refine ev_iload_n d_Ch_add_33 rfl ?_
  exact ev_call (M' := m_Pa_append) (As := [.ref a2, .int x1]) (st := st) d_Ch_add_34 i_Pa_append (fun h => absurd h (by decide +kernel)) cw_Ch_65 rfl rfl ⟨hb.1, 7, _, _, hb.2, rfl, rfl⟩ rfl (Nat.le_of_ble_eq_true rfl) h8 k
theorem t_Ch_add_37 {d : Nat} {st : List Value} {a0 : Nat} {o1 : Option Value} {o2 : Option Value} {fs2 : List Value} {n4 : Int32} {w : qk_W} {nc ns : Nat} {Q : Option Value ⊕ Nat → qk_W → Nat → Nat → Prop}  (hw1 : wo w a0 2 fs2) (hf3 : fs2[1]? = some (.int n4)) (hk : 1 < fs2.length) (k : Ev d m_Ch_add 47 [some (.ref a0), o1, o2] st (qk_set w a0 (.inr (2, fs2.set 1 (.int (n4 + 1))))) nc ns Q) : Ev d m_Ch_add 37 [some (.ref a0), o1, o2] st w nc ns Q := by
  refine ev_aload_n d_Ch_add_37 rfl rfl ?_
  refine ev_dup d_Ch_add_38 rfl ?_
  refine ev_getf d_Ch_add_39 fl_Ch_28 hw1.1 hw1.2 hf3 ?_
  refine ev_iconst 1 d_Ch_add_42 (by decide) ?_
  refine ev_iadd d_Ch_add_43 ?_
  exact ev_putf d_Ch_add_44 fl_Ch_28 rfl hw1.1 hw1.2 hk (qk_fitI _) k
theorem t_Ch_add_47 {d : Nat} {o0 : Option Value} {o1 : Option Value} {o2 : Option Value} {w : qk_W} {nc ns : Nat} {Q : Option Value ⊕ Nat → qk_W → Nat → Nat → Prop}   (hq : Q (.inl none) w nc ns) : Ev d m_Ch_add 47 [o0, o1, o2] [] w nc ns Q := by
  exact ev_vret d_Ch_add_47 rfl hq
/-! Ch_askFor -/
theorem ll_Ch_106 : Cond.constantLong "QuakeLink$Channel" 106 (32768) ∈ lw_tbl := (lw_i4 _ (List.mem_of_getElem? (i := 43) rfl))
theorem cw_Ch_108 : qk_cw "QuakeLink$Channel" m_Math_min_JJJ.1 (.invokestatic 108) := ⟨Or.inl (lw_i4 _ (List.mem_of_getElem? (i := 44) rfl)), (lw_i4 _ (List.mem_of_getElem? (i := 45) rfl))⟩
theorem cw_Ch_111 : qk_cw "QuakeLink$Channel" m_Ns_include.1 (.invokevirtual 111) := ⟨(lw_i4 _ (List.mem_of_getElem? (i := 47) rfl)), (lw_i4 _ (List.mem_of_getElem? (i := 19) rfl)), (lw_i4 _ (List.mem_of_getElem? (i := 20) rfl))⟩
theorem d_Ch_askFor_0 : decode m_Ch_askFor.2.1 0 = .ok (.lload_n 1, 1) := by decide +kernel
theorem d_Ch_askFor_1 : decode m_Ch_askFor.2.1 1 = .ok (.ldc2_w 106, 3) := by decide +kernel
theorem d_Ch_askFor_4 : decode m_Ch_askFor.2.1 4 = .ok (.invokestatic 108, 3) := by decide +kernel
theorem d_Ch_askFor_7 : decode m_Ch_askFor.2.1 7 = .ok (.l2i, 1) := by decide +kernel
theorem d_Ch_askFor_8 : decode m_Ch_askFor.2.1 8 = .ok (.istore 5, 2) := by decide +kernel
theorem d_Ch_askFor_10 : decode m_Ch_askFor.2.1 10 = .ok (.lload_n 3, 1) := by decide +kernel
theorem d_Ch_askFor_11 : decode m_Ch_askFor.2.1 11 = .ok (.aload_n 0, 1) := by decide +kernel
theorem d_Ch_askFor_12 : decode m_Ch_askFor.2.1 12 = .ok (.getfield 31, 3) := by decide +kernel
theorem d_Ch_askFor_15 : decode m_Ch_askFor.2.1 15 = .ok (.iconst 1, 1) := by decide +kernel
theorem d_Ch_askFor_16 : decode m_Ch_askFor.2.1 16 = .ok (.isub, 1) := by decide +kernel
theorem d_Ch_askFor_17 : decode m_Ch_askFor.2.1 17 = .ok (.i2l, 1) := by decide +kernel
theorem d_Ch_askFor_18 : decode m_Ch_askFor.2.1 18 = .ok (.invokestatic 108, 3) := by decide +kernel
theorem d_Ch_askFor_21 : decode m_Ch_askFor.2.1 21 = .ok (.l2i, 1) := by decide +kernel
theorem d_Ch_askFor_22 : decode m_Ch_askFor.2.1 22 = .ok (.istore 6, 2) := by decide +kernel
theorem d_Ch_askFor_24 : decode m_Ch_askFor.2.1 24 = .ok (.iload 5, 2) := by decide +kernel
theorem d_Ch_askFor_26 : decode m_Ch_askFor.2.1 26 = .ok (.iload 6, 2) := by decide +kernel
theorem d_Ch_askFor_28 : decode m_Ch_askFor.2.1 28 = .ok (.if_icmp .le 7, 3) := by decide +kernel
theorem d_Ch_askFor_31 : decode m_Ch_askFor.2.1 31 = .ok (.iconst 0, 1) := by decide +kernel
theorem d_Ch_askFor_32 : decode m_Ch_askFor.2.1 32 = .ok (.goto 14, 3) := by decide +kernel
theorem d_Ch_askFor_35 : decode m_Ch_askFor.2.1 35 = .ok (.aload_n 0, 1) := by decide +kernel
theorem d_Ch_askFor_36 : decode m_Ch_askFor.2.1 36 = .ok (.getfield 12, 3) := by decide +kernel
theorem d_Ch_askFor_39 : decode m_Ch_askFor.2.1 39 = .ok (.iload 5, 2) := by decide +kernel
theorem d_Ch_askFor_41 : decode m_Ch_askFor.2.1 41 = .ok (.iload 6, 2) := by decide +kernel
theorem d_Ch_askFor_43 : decode m_Ch_askFor.2.1 43 = .ok (.invokevirtual 111, 3) := by decide +kernel
theorem d_Ch_askFor_46 : decode m_Ch_askFor.2.1 46 = .ok (.ireturn, 1) := by decide +kernel
theorem t_Ch_askFor_0 {d : Nat} {st : List Value} {o0 : Option Value} {x1 : Int64} {o2 : Option Value} {o3 : Option Value} {o4 : Option Value} {o5 : Option Value} {o6 : Option Value} {w : qk_W} {nc ns : Nat} {Q : Option Value ⊕ Nat → qk_W → Nat → Nat → Prop}  (h8 : (st.map fun v => Value.category v).sum ≤ 8) (k : Ev d m_Math_min_JJJ 0 [some (.long x1), none, some (.long 32768), none] [] w nc ns (fun r w1 nc1 ns1 => match r with | .inl v => Ev (d + 1) m_Ch_askFor 7 [o0, some (.long x1), o2, o3, o4, o5, o6] (v.toList ++ st) w1 nc1 ns1 Q | .inr x => Q (.inr x) w1 nc1 ns1)) : Ev (d + 1) m_Ch_askFor 0 [o0, some (.long x1), o2, o3, o4, o5, o6] st w nc ns Q := by
  refine ev_lload_n d_Ch_askFor_0 rfl ?_
  refine ev_ldc2 32768 d_Ch_askFor_1 ll_Ch_106 ?_
  exact ev_call (M' := m_Math_min_JJJ) (As := [.long x1, .long 32768]) (st := st) d_Ch_askFor_4 i_Math_min_JJJ (fun h => absurd h (by decide +kernel)) cw_Ch_108 rfl rfl trivial rfl (Nat.le_of_ble_eq_true rfl) h8 k
theorem t_Ch_askFor_7 {d : Nat} {st : List Value} {a0 : Nat} {o1 : Option Value} {o2 : Option Value} {x3 : Int64} {o4 : Option Value} {o5 : Option Value} {o6 : Option Value} {y0 : Int64} {fs3 : List Value} {n5 : Int32} {w : qk_W} {nc ns : Nat} {Q : Option Value ⊕ Nat → qk_W → Nat → Nat → Prop}  (hc1 : qk_c2 [some (.ref a0), o1, o2, some (.long x3), o4, o5, o6] 5 = true) (hw2 : wo w a0 2 fs3) (hf4 : fs3[5]? = some (.int n5)) (h8 : (st.map fun v => Value.category v).sum ≤ 8) (k : Ev d m_Math_min_JJJ 0 [some (.long x3), none, some (.long (Int32.toInt64 (n5 - 1))), none] [] w nc ns (fun r w1 nc1 ns1 => match r with | .inl v => Ev (d + 1) m_Ch_askFor 21 [some (.ref a0), o1, o2, some (.long x3), o4, some (.int (Int64.toInt32 y0)), o6] (v.toList ++ st) w1 nc1 ns1 Q | .inr x => Q (.inr x) w1 nc1 ns1)) : Ev (d + 1) m_Ch_askFor 7 [some (.ref a0), o1, o2, some (.long x3), o4, o5, o6] (.long y0 :: st) w nc ns Q := by
  refine ev_l2i d_Ch_askFor_7 ?_
  refine ev_istore d_Ch_askFor_8 (by decide) hc1 ?_
  refine ev_lload_n d_Ch_askFor_10 rfl ?_
  refine ev_aload_n d_Ch_askFor_11 rfl rfl ?_
  refine ev_getf d_Ch_askFor_12 fl_Ch_31 hw2.1 hw2.2 hf4 ?_
  refine ev_iconst 1 d_Ch_askFor_15 (by decide) ?_
  refine ev_isub d_Ch_askFor_16 ?_
  refine ev_i2l d_Ch_askFor_17 ?_
  exact ev_call (M' := m_Math_min_JJJ) (As := [.long x3, .long (Int32.toInt64 (n5 - 1))]) (st := st) d_Ch_askFor_18 i_Math_min_JJJ (fun h => absurd h (by decide +kernel)) cw_Ch_108 rfl rfl trivial rfl (Nat.le_of_ble_eq_true rfl) h8 k
theorem t_Ch_askFor_21 {d : Nat} {st : List Value} {o0 : Option Value} {o1 : Option Value} {o2 : Option Value} {o3 : Option Value} {o4 : Option Value} {x5 : Int32} {o6 : Option Value} {y0 : Int64} {w : qk_W} {nc ns : Nat} {Q : Option Value ⊕ Nat → qk_W → Nat → Nat → Prop}  (hc1 : qk_c2 [o0, o1, o2, o3, o4, some (.int x5), o6] 6 = true) (kt : x5 ≤ (Int64.toInt32 y0) → Ev d m_Ch_askFor 35 [o0, o1, o2, o3, o4, some (.int x5), some (.int (Int64.toInt32 y0))] st w nc ns Q) (kf : ¬ (x5 ≤ (Int64.toInt32 y0)) → Ev d m_Ch_askFor 31 [o0, o1, o2, o3, o4, some (.int x5), some (.int (Int64.toInt32 y0))] st w nc ns Q) : Ev d m_Ch_askFor 21 [o0, o1, o2, o3, o4, some (.int x5), o6] (.long y0 :: st) w nc ns Q := by
  refine ev_l2i d_Ch_askFor_21 ?_
  refine ev_istore d_Ch_askFor_22 (by decide) hc1 ?_
  refine ev_iload d_Ch_askFor_24 rfl ?_
  refine ev_iload d_Ch_askFor_26 rfl ?_
  exact ev_icmp_le 35 d_Ch_askFor_28 (by decide) kt kf
theorem t_Ch_askFor_31 {d : Nat} {o0 : Option Value} {o1 : Option Value} {o2 : Option Value} {o3 : Option Value} {o4 : Option Value} {o5 : Option Value} {o6 : Option Value} {w : qk_W} {nc ns : Nat} {Q : Option Value ⊕ Nat → qk_W → Nat → Nat → Prop}   (hq : Q (.inl (some (.int 0))) w nc ns) : Ev d m_Ch_askFor 31 [o0, o1, o2, o3, o4, o5, o6] [] w nc ns Q := by
  refine ev_iconst 0 d_Ch_askFor_31 (by decide) ?_
  refine ev_goto 46 d_Ch_askFor_32 (by decide) ?_
  exact ev_iret d_Ch_askFor_46 rfl rfl hq
theorem t_Ch_askFor_35 {d : Nat} {st : List Value} {a0 : Nat} {o1 : Option Value} {o2 : Option Value} {o3 : Option Value} {o4 : Option Value} {x5 : Int32} {x6 : Int32} {fs2 : List Value} {c4 : Nat} {fsb : List Value} {w : qk_W} {nc ns : Nat} {Q : Option Value ⊕ Nat → qk_W → Nat → Nat → Prop}  (hw1 : wo w a0 2 fs2) (hf3 : fs2[0]? = some (.ref c4)) (hb : wo w c4 3 fsb) (h8 : (st.map fun v => Value.category v).sum ≤ 8) (k : Ev d m_Ns_include 0 [some (.ref c4), some (.int x5), some (.int x6), none, none, none, none, none] [] w nc ns (fun r w1 nc1 ns1 => match r with | .inl v => Ev (d + 1) m_Ch_askFor 46 [some (.ref a0), o1, o2, o3, o4, some (.int x5), some (.int x6)] (v.toList ++ st) w1 nc1 ns1 Q | .inr x => Q (.inr x) w1 nc1 ns1)) : Ev (d + 1) m_Ch_askFor 35 [some (.ref a0), o1, o2, o3, o4, some (.int x5), some (.int x6)] st w nc ns Q := by
  refine ev_aload_n d_Ch_askFor_35 rfl rfl ?_
  refine ev_getf d_Ch_askFor_36 fl_Ch_12 hw1.1 hw1.2 hf3 ?_
  refine ev_iload d_Ch_askFor_39 rfl ?_
  refine ev_iload d_Ch_askFor_41 rfl ?_
  exact ev_call (M' := m_Ns_include) (As := [.ref c4, .int x5, .int x6]) (st := st) d_Ch_askFor_43 i_Ns_include (fun h => absurd h (by decide +kernel)) cw_Ch_111 rfl rfl ⟨hb.1, 3, _, _, hb.2, rfl, rfl⟩ rfl (Nat.le_of_ble_eq_true rfl) h8 k
theorem t_Ch_askFor_46 {d : Nat} {o0 : Option Value} {o1 : Option Value} {o2 : Option Value} {o3 : Option Value} {o4 : Option Value} {o5 : Option Value} {o6 : Option Value} {y0 : Int32} {w : qk_W} {nc ns : Nat} {Q : Option Value ⊕ Nat → qk_W → Nat → Nat → Prop}   (hq : Q (.inl (some (.int y0))) w nc ns) : Ev d m_Ch_askFor 46 [o0, o1, o2, o3, o4, o5, o6] [.int y0] w nc ns Q := by
  exact ev_iret d_Ch_askFor_46 rfl rfl hq
