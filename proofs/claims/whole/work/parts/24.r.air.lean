/-! Ai_init -/
theorem ob_Ai_3 : Cond.methodLink "QuakeLink$Air" 3 Lib.objectInit ∈ lw_tbl := (lw_i1 _ (List.mem_of_getElem? (i := 109) rfl))
theorem al_Ai_9 : Cond.classLink "QuakeLink$Air" 9 "QuakeLink$Message" ∈ lw_tbl ∧ Cond.arrayOver (.object "QuakeLink$Message") ∈ lw_tbl := ⟨(lw_i1 _ (List.mem_of_getElem? (i := 110) rfl)), (lw_i1 _ (List.mem_of_getElem? (i := 111) rfl))⟩
theorem fl_Ai_11 : qk_fl "QuakeLink$Air" 11 4 0 := ⟨_, rfl, by decide, rfl, (lw_i1 _ (List.mem_of_getElem? (i := 112) rfl))⟩
theorem d_Ai_init_0 : decode m_Ai_init.2.1 0 = .ok (.aload_n 0, 1) := by decide +kernel
theorem d_Ai_init_1 : decode m_Ai_init.2.1 1 = .ok (.invokespecial 3, 3) := by decide +kernel
theorem d_Ai_init_4 : decode m_Ai_init.2.1 4 = .ok (.aload_n 0, 1) := by decide +kernel
theorem d_Ai_init_5 : decode m_Ai_init.2.1 5 = .ok (.bipush 64, 2) := by decide +kernel
theorem d_Ai_init_7 : decode m_Ai_init.2.1 7 = .ok (.anewarray 9, 3) := by decide +kernel
theorem d_Ai_init_10 : decode m_Ai_init.2.1 10 = .ok (.putfield 11, 3) := by decide +kernel
theorem d_Ai_init_13 : decode m_Ai_init.2.1 13 = .ok (.return_, 1) := by decide +kernel
theorem t_Ai_init_0 {d : Nat} {st : List Value} {a0 : Nat} {w : qk_W} {nc ns : Nat} {Q : Option Value ⊕ Nat → qk_W → Nat → Nat → Prop}  (h8 : (st.map fun v => Value.category v).sum ≤ 8) (k : Ev (d + 1) m_Ai_init 4 [some (.ref a0)] st w nc ns Q) : Ev (d + 1) m_Ai_init 0 [some (.ref a0)] st w nc ns Q := by
  refine ev_aload_n d_Ai_init_0 rfl rfl ?_
  exact ev_obj d_Ai_init_1 ob_Ai_3 ob_inst ob_code (by omega) h8 k
theorem t_Ai_init_4 {d : Nat} {st : List Value} {v0 : Value} {w : qk_W} {nc ns : Nat} {Q : Option Value ⊕ Nat → qk_W → Nat → Nat → Prop} (hv0 : qk_isr v0 = true) (v : Nat) (hv : 16 ≤ v) (hn : w v = none) (k : Ev d m_Ai_init 10 [some v0] (.ref v :: v0 :: st) (qk_set w v (.inl (.object "QuakeLink$Message", 64, .inr (.inr (.inr (.inr (fun _ => none))))))) (nc + 1) (ns + 64) Q) : Ev d m_Ai_init 4 [some v0] st w nc ns Q := by
  refine ev_aload_n d_Ai_init_4 rfl hv0 ?_
  refine ev_bipush 64 d_Ai_init_5 (by decide) ?_
  exact ev_anew (n0 := 0) v d_Ai_init_7 al_Ai_9.1 al_Ai_9.2 (by decide) (by decide) (by decide) (by decide) hv hn k
theorem t_Ai_init_10 {d : Nat} {st : List Value} {o0 : Option Value} {s0 : Value} {b1 : Nat} {fs2 : List Value} {w : qk_W} {nc ns : Nat} {Q : Option Value ⊕ Nat → qk_W → Nat → Nat → Prop} (hs0 : qk_isr s0 = true) (hw1 : wo w b1 4 fs2) (hk : 0 < fs2.length) (hz : qk_fit (qk_fty 4 0) s0 = true) (k : Ev d m_Ai_init 13 [o0] st (qk_set w b1 (.inr (4, fs2.set 0 (s0)))) nc ns Q) : Ev d m_Ai_init 10 [o0] (s0 :: .ref b1 :: st) w nc ns Q := by
  exact ev_putF d_Ai_init_10 fl_Ai_11 rfl rfl rfl hw1.1 hw1.2 hk hz k
theorem t_Ai_init_13 {d : Nat} {o0 : Option Value} {w : qk_W} {nc ns : Nat} {Q : Option Value ⊕ Nat → qk_W → Nat → Nat → Prop}   (hq : Q (.inl none) w nc ns) : Ev d m_Ai_init 13 [o0] [] w nc ns Q := by
  exact ev_vret d_Ai_init_13 rfl hq
/-! Ai_add -/
theorem fl_Ai_17 : qk_fl "QuakeLink$Air" 17 4 1 := ⟨_, rfl, by decide, rfl, (lw_i1 _ (List.mem_of_getElem? (i := 113) rfl))⟩
theorem cw_Ai_21 : qk_cw "QuakeLink$Air" m_Math_floorMod.1 (.invokestatic 21) := ⟨Or.inl (lw_i2 _ (List.mem_of_getElem? (i := 71) rfl)), (lw_i1 _ (List.mem_of_getElem? (i := 215) rfl))⟩
theorem nl_Ai_9 : qk_nl "QuakeLink$Air" 9 8 [.null, .int 0] := ⟨_, rfl, by decide, (lw_i1 _ (List.mem_of_getElem? (i := 110) rfl)), rfl, rfl⟩
theorem cw_Ai_27 : qk_cw "QuakeLink$Air" m_Me_init.1 (.invokespecial 27) := ⟨rfl, Or.inr ⟨"QuakeLink", (lw_i2 _ (List.mem_of_getElem? (i := 72) rfl))⟩, (lw_i1 _ (List.mem_of_getElem? (i := 225) rfl))⟩
theorem fl_Ai_28 : qk_fl "QuakeLink$Air" 28 8 1 := ⟨_, rfl, by decide, rfl, (lw_i1 _ (List.mem_of_getElem? (i := 234) rfl))⟩
theorem d_Ai_add_0 : decode m_Ai_add.2.1 0 = .ok (.aload_n 0, 1) := by decide +kernel
theorem d_Ai_add_1 : decode m_Ai_add.2.1 1 = .ok (.getfield 17, 3) := by decide +kernel
theorem d_Ai_add_4 : decode m_Ai_add.2.1 4 = .ok (.bipush 64, 2) := by decide +kernel
theorem d_Ai_add_6 : decode m_Ai_add.2.1 6 = .ok (.invokestatic 21, 3) := by decide +kernel
theorem d_Ai_add_9 : decode m_Ai_add.2.1 9 = .ok (.istore_n 2, 1) := by decide +kernel
theorem d_Ai_add_10 : decode m_Ai_add.2.1 10 = .ok (.aload_n 0, 1) := by decide +kernel
theorem d_Ai_add_11 : decode m_Ai_add.2.1 11 = .ok (.getfield 11, 3) := by decide +kernel
theorem d_Ai_add_14 : decode m_Ai_add.2.1 14 = .ok (.iload_n 2, 1) := by decide +kernel
theorem d_Ai_add_15 : decode m_Ai_add.2.1 15 = .ok (.aaload, 1) := by decide +kernel
theorem d_Ai_add_16 : decode m_Ai_add.2.1 16 = .ok (.ifnonnull 16, 3) := by decide +kernel
theorem d_Ai_add_19 : decode m_Ai_add.2.1 19 = .ok (.aload_n 0, 1) := by decide +kernel
theorem d_Ai_add_20 : decode m_Ai_add.2.1 20 = .ok (.getfield 11, 3) := by decide +kernel
theorem d_Ai_add_23 : decode m_Ai_add.2.1 23 = .ok (.iload_n 2, 1) := by decide +kernel
theorem d_Ai_add_24 : decode m_Ai_add.2.1 24 = .ok (.new 9, 3) := by decide +kernel
theorem d_Ai_add_27 : decode m_Ai_add.2.1 27 = .ok (.dup, 1) := by decide +kernel
theorem d_Ai_add_28 : decode m_Ai_add.2.1 28 = .ok (.invokespecial 27, 3) := by decide +kernel
theorem d_Ai_add_31 : decode m_Ai_add.2.1 31 = .ok (.aastore, 1) := by decide +kernel
theorem d_Ai_add_32 : decode m_Ai_add.2.1 32 = .ok (.aload_n 0, 1) := by decide +kernel
theorem d_Ai_add_33 : decode m_Ai_add.2.1 33 = .ok (.dup, 1) := by decide +kernel
theorem d_Ai_add_34 : decode m_Ai_add.2.1 34 = .ok (.getfield 17, 3) := by decide +kernel
theorem d_Ai_add_37 : decode m_Ai_add.2.1 37 = .ok (.iconst 1, 1) := by decide +kernel
theorem d_Ai_add_38 : decode m_Ai_add.2.1 38 = .ok (.iadd, 1) := by decide +kernel
theorem d_Ai_add_39 : decode m_Ai_add.2.1 39 = .ok (.putfield 17, 3) := by decide +kernel
theorem d_Ai_add_42 : decode m_Ai_add.2.1 42 = .ok (.aload_n 0, 1) := by decide +kernel
theorem d_Ai_add_43 : decode m_Ai_add.2.1 43 = .ok (.getfield 11, 3) := by decide +kernel
theorem d_Ai_add_46 : decode m_Ai_add.2.1 46 = .ok (.iload_n 2, 1) := by decide +kernel
theorem d_Ai_add_47 : decode m_Ai_add.2.1 47 = .ok (.aaload, 1) := by decide +kernel
theorem d_Ai_add_48 : decode m_Ai_add.2.1 48 = .ok (.iload_n 1, 1) := by decide +kernel
theorem d_Ai_add_49 : decode m_Ai_add.2.1 49 = .ok (.putfield 28, 3) := by decide +kernel
theorem d_Ai_add_52 : decode m_Ai_add.2.1 52 = .ok (.aload_n 0, 1) := by decide +kernel
theorem d_Ai_add_53 : decode m_Ai_add.2.1 53 = .ok (.getfield 11, 3) := by decide +kernel
theorem d_Ai_add_56 : decode m_Ai_add.2.1 56 = .ok (.iload_n 2, 1) := by decide +kernel
theorem d_Ai_add_57 : decode m_Ai_add.2.1 57 = .ok (.aaload, 1) := by decide +kernel
theorem d_Ai_add_58 : decode m_Ai_add.2.1 58 = .ok (.areturn, 1) := by decide +kernel
theorem t_Ai_add_0 {d : Nat} {st : List Value} {a0 : Nat} {o1 : Option Value} {o2 : Option Value} {fs2 : List Value} {n4 : Int32} {w : qk_W} {nc ns : Nat} {Q : Option Value ⊕ Nat → qk_W → Nat → Nat → Prop}  (hw1 : wo w a0 4 fs2) (hf3 : fs2[1]? = some (.int n4)) (h8 : (st.map fun v => Value.category v).sum ≤ 8) (k : Ev d m_Math_floorMod 0 [some (.int n4), some (.int 64), none] [] w nc ns (fun r w1 nc1 ns1 => match r with | .inl v => Ev (d + 1) m_Ai_add 9 [some (.ref a0), o1, o2] (v.toList ++ st) w1 nc1 ns1 Q | .inr x => Q (.inr x) w1 nc1 ns1)) : Ev (d + 1) m_Ai_add 0 [some (.ref a0), o1, o2] st w nc ns Q := by
  refine ev_aload_n d_Ai_add_0 rfl rfl ?_
  refine ev_getf d_Ai_add_1 fl_Ai_17 hw1.1 hw1.2 hf3 ?_
  refine ev_bipush 64 d_Ai_add_4 (by decide) ?_
  exact ev_call (M' := m_Math_floorMod) (As := [.int n4, .int 64]) (st := st) d_Ai_add_6 i_Math_floorMod (fun h => absurd h (by decide +kernel)) cw_Ai_21 rfl rfl trivial rfl (Nat.le_of_ble_eq_true rfl) h8 k
theorem t_Ai_add_9 {d : Nat} {st : List Value} {a0 : Nat} {o1 : Option Value} {o2 : Option Value} {y0 : Int32} {fs3 : List Value} {c5 : Nat} {n7 : Nat} {f8 : Nat → Option Nat} {c11 : Nat} {w : qk_W} {nc ns : Nat} {Q : Option Value ⊕ Nat → qk_W → Nat → Nat → Prop}  (hc1 : qk_c2 [some (.ref a0), o1, o2] 2 = true) (hw2 : wo w a0 4 fs3) (hf4 : fs3[0]? = some (.ref c5)) (ha6 : wr "QuakeLink$Message" w c5 n7 f8) (hi9 : vp_in y0 n7) (hr10 : f8 y0.toNatClampNeg = some c11) (k : Ev d m_Ai_add 32 [some (.ref a0), o1, some (.int y0)] st w nc ns Q) : Ev d m_Ai_add 9 [some (.ref a0), o1, o2] (.int y0 :: st) w nc ns Q := by
  refine ev_istore_n d_Ai_add_9 (by decide) hc1 ?_
  refine ev_aload_n d_Ai_add_10 rfl rfl ?_
  refine ev_getf d_Ai_add_11 fl_Ai_11 hw2.1 hw2.2 hf4 ?_
  refine ev_iload_n d_Ai_add_14 rfl ?_
  refine ev_aald d_Ai_add_15 ha6.1 (by decide) ha6.2 hi9 ?_
  rw [hr10]
  show Ev _ _ _ _ (Value.ref c11 :: _) _ _ _ _
  refine ev_ifnonnull_r 32 d_Ai_add_16 (by decide) ?_
  exact k
theorem t_Ai_add_9n {d : Nat} {st : List Value} {a0 : Nat} {o1 : Option Value} {o2 : Option Value} {y0 : Int32} {fs3 : List Value} {c5 : Nat} {n7 : Nat} {f8 : Nat → Option Nat} {w : qk_W} {nc ns : Nat} {Q : Option Value ⊕ Nat → qk_W → Nat → Nat → Prop}  (hc1 : qk_c2 [some (.ref a0), o1, o2] 2 = true) (hw2 : wo w a0 4 fs3) (hf4 : fs3[0]? = some (.ref c5)) (ha6 : wr "QuakeLink$Message" w c5 n7 f8) (hi9 : vp_in y0 n7) (hr10 : f8 y0.toNatClampNeg = none) (k : Ev d m_Ai_add 19 [some (.ref a0), o1, some (.int y0)] st w nc ns Q) : Ev d m_Ai_add 9 [some (.ref a0), o1, o2] (.int y0 :: st) w nc ns Q := by
  refine ev_istore_n d_Ai_add_9 (by decide) hc1 ?_
  refine ev_aload_n d_Ai_add_10 rfl rfl ?_
  refine ev_getf d_Ai_add_11 fl_Ai_11 hw2.1 hw2.2 hf4 ?_
  refine ev_iload_n d_Ai_add_14 rfl ?_
  refine ev_aald d_Ai_add_15 ha6.1 (by decide) ha6.2 hi9 ?_
  rw [hr10]
  show Ev _ _ _ _ (Value.null :: _) _ _ _ _
  refine ev_ifnonnull_n d_Ai_add_16 ?_
  exact k
theorem t_Ai_add_19 {d : Nat} {st : List Value} {a0 : Nat} {o1 : Option Value} {x2 : Int32} {fs2 : List Value} {c4 : Nat} {w : qk_W} {nc ns : Nat} {Q : Option Value ⊕ Nat → qk_W → Nat → Nat → Prop}  (v : Nat) (hv : 16 ≤ v) (hn : w v = none) (hw1 : wo w a0 4 fs2) (hf3 : fs2[0]? = some (.ref c4)) (k : Ev d m_Ai_add 27 [some (.ref a0), o1, some (.int x2)] (.ref v :: .int x2 :: .ref c4 :: st) (qk_set w v (.inr (8, [.null, .int 0]))) (nc + 1) (ns + 2) Q) : Ev d m_Ai_add 19 [some (.ref a0), o1, some (.int x2)] st w nc ns Q := by
  refine ev_aload_n d_Ai_add_19 rfl rfl ?_
  refine ev_getf d_Ai_add_20 fl_Ai_11 hw1.1 hw1.2 hf3 ?_
  refine ev_iload_n d_Ai_add_23 rfl ?_
  exact ev_new v d_Ai_add_24 nl_Ai_9 hv hn k
theorem t_Ai_add_27 {d : Nat} {st : List Value} {o0 : Option Value} {o1 : Option Value} {o2 : Option Value} {b0 : Nat} {w : qk_W} {nc ns : Nat} {Q : Option Value ⊕ Nat → qk_W → Nat → Nat → Prop}  (h8 : ((.ref b0 :: st).map fun v => Value.category v).sum ≤ 8) (k : Ev d m_Me_init 0 [some (.ref b0)] [] w nc ns (fun r w1 nc1 ns1 => match r with | .inl v => Ev (d + 1) m_Ai_add 31 [o0, o1, o2] (v.toList ++ (.ref b0 :: st)) w1 nc1 ns1 Q | .inr x => Q (.inr x) w1 nc1 ns1)) : Ev (d + 1) m_Ai_add 27 [o0, o1, o2] (.ref b0 :: st) w nc ns Q := by
  refine ev_dup d_Ai_add_27 rfl ?_
  exact ev_call (M' := m_Me_init) (As := [.ref b0]) (st := (.ref b0 :: st)) d_Ai_add_28 i_Me_init ii_Me_init cw_Ai_27 rfl rfl trivial rfl (Nat.le_of_ble_eq_true rfl) h8 k
theorem t_Ai_add_31 {d : Nat} {st : List Value} {o0 : Option Value} {o1 : Option Value} {o2 : Option Value} {b0 : Nat} {y1 : Int32} {b2 : Nat} {n2 : Nat} {f3 : Nat → Option Nat} {vs : List Value} {w : qk_W} {nc ns : Nat} {Q : Option Value ⊕ Nat → qk_W → Nat → Nat → Prop}  (ha1 : wr "QuakeLink$Message" w b2 n2 f3) (hi : vp_in y1 n2) (hv : wo w b0 8 vs) (k : Ev d m_Ai_add 32 [o0, o1, o2] st (qk_set w b2 (.inl (.object "QuakeLink$Message", n2, .inr (.inr (.inr (.inr (va_up f3 y1.toNatClampNeg (some b0)))))))) nc ns Q) : Ev d m_Ai_add 31 [o0, o1, o2] (.ref b0 :: .int y1 :: .ref b2 :: st) w nc ns Q := by
  exact ev_aast (ci := 8) d_Ai_add_31 ha1.1 hv.1 rfl (by decide) ha1.2 hv.2 hi k
theorem t_Ai_add_32 {d : Nat} {st : List Value} {a0 : Nat} {o1 : Option Value} {o2 : Option Value} {fs2 : List Value} {n4 : Int32} {w : qk_W} {nc ns : Nat} {Q : Option Value ⊕ Nat → qk_W → Nat → Nat → Prop}  (hw1 : wo w a0 4 fs2) (hf3 : fs2[1]? = some (.int n4)) (hk : 1 < fs2.length) (k : Ev d m_Ai_add 42 [some (.ref a0), o1, o2] st (qk_set w a0 (.inr (4, fs2.set 1 (.int (n4 + 1))))) nc ns Q) : Ev d m_Ai_add 32 [some (.ref a0), o1, o2] st w nc ns Q := by
  refine ev_aload_n d_Ai_add_32 rfl rfl ?_
  refine ev_dup d_Ai_add_33 rfl ?_
  refine ev_getf d_Ai_add_34 fl_Ai_17 hw1.1 hw1.2 hf3 ?_
  refine ev_iconst 1 d_Ai_add_37 (by decide) ?_
  refine ev_iadd d_Ai_add_38 ?_
  exact ev_putf d_Ai_add_39 fl_Ai_17 rfl hw1.1 hw1.2 hk (qk_fitI _) k
theorem t_Ai_add_42 {d : Nat} {st : List Value} {a0 : Nat} {x1 : Int32} {x2 : Int32} {fs2 : List Value} {c4 : Nat} {n6 : Nat} {f7 : Nat → Option Nat} {c10 : Nat} {fs12 : List Value} {w : qk_W} {nc ns : Nat} {Q : Option Value ⊕ Nat → qk_W → Nat → Nat → Prop}  (hw1 : wo w a0 4 fs2) (hf3 : fs2[0]? = some (.ref c4)) (ha5 : wr "QuakeLink$Message" w c4 n6 f7) (hi8 : vp_in x2 n6) (hr9 : f7 x2.toNatClampNeg = some c10) (hw11 : wo w c10 8 fs12) (hk : 1 < fs12.length) (k : Ev d m_Ai_add 52 [some (.ref a0), some (.int x1), some (.int x2)] st (qk_set w c10 (.inr (8, fs12.set 1 (.int x1)))) nc ns Q) : Ev d m_Ai_add 42 [some (.ref a0), some (.int x1), some (.int x2)] st w nc ns Q := by
  refine ev_aload_n d_Ai_add_42 rfl rfl ?_
  refine ev_getf d_Ai_add_43 fl_Ai_11 hw1.1 hw1.2 hf3 ?_
  refine ev_iload_n d_Ai_add_46 rfl ?_
  refine ev_aald d_Ai_add_47 ha5.1 (by decide) ha5.2 hi8 ?_
  rw [hr9]
  show Ev _ _ _ _ (Value.ref c10 :: _) _ _ _ _
  refine ev_iload_n d_Ai_add_48 rfl ?_
  exact ev_putf d_Ai_add_49 fl_Ai_28 rfl hw11.1 hw11.2 hk (qk_fitI _) k
theorem t_Ai_add_52 {d : Nat} {a0 : Nat} {o1 : Option Value} {x2 : Int32} {fs2 : List Value} {c4 : Nat} {n6 : Nat} {f7 : Nat → Option Nat} {c10 : Nat} {w : qk_W} {nc ns : Nat} {Q : Option Value ⊕ Nat → qk_W → Nat → Nat → Prop}  (hw1 : wo w a0 4 fs2) (hf3 : fs2[0]? = some (.ref c4)) (ha5 : wr "QuakeLink$Message" w c4 n6 f7) (hi8 : vp_in x2 n6) (hr9 : f7 x2.toNatClampNeg = some c10) (hq : Q (.inl (some (.ref c10))) w nc ns) : Ev d m_Ai_add 52 [some (.ref a0), o1, some (.int x2)] [] w nc ns Q := by
  refine ev_aload_n d_Ai_add_52 rfl rfl ?_
  refine ev_getf d_Ai_add_53 fl_Ai_11 hw1.1 hw1.2 hf3 ?_
  refine ev_iload_n d_Ai_add_56 rfl ?_
  refine ev_aald d_Ai_add_57 ha5.1 (by decide) ha5.2 hi8 ?_
  rw [hr9]
  show Ev _ _ _ _ (Value.ref c10 :: _) _ _ _ _
  exact ev_aret d_Ai_add_58 rfl rfl hq
/-! Ai_latest -/
theorem d_Ai_latest_0 : decode m_Ai_latest.2.1 0 = .ok (.aload_n 0, 1) := by decide +kernel
theorem d_Ai_latest_1 : decode m_Ai_latest.2.1 1 = .ok (.getfield 17, 3) := by decide +kernel
theorem d_Ai_latest_4 : decode m_Ai_latest.2.1 4 = .ok (.iconst 1, 1) := by decide +kernel
theorem d_Ai_latest_5 : decode m_Ai_latest.2.1 5 = .ok (.isub, 1) := by decide +kernel
theorem d_Ai_latest_6 : decode m_Ai_latest.2.1 6 = .ok (.ireturn, 1) := by decide +kernel
theorem t_Ai_latest_0 {d : Nat} {a0 : Nat} {fs2 : List Value} {n4 : Int32} {w : qk_W} {nc ns : Nat} {Q : Option Value ⊕ Nat → qk_W → Nat → Nat → Prop}  (hw1 : wo w a0 4 fs2) (hf3 : fs2[1]? = some (.int n4)) (hq : Q (.inl (some (.int (n4 - 1)))) w nc ns) : Ev d m_Ai_latest 0 [some (.ref a0)] [] w nc ns Q := by
  refine ev_aload_n d_Ai_latest_0 rfl rfl ?_
  refine ev_getf d_Ai_latest_1 fl_Ai_17 hw1.1 hw1.2 hf3 ?_
  refine ev_iconst 1 d_Ai_latest_4 (by decide) ?_
  refine ev_isub d_Ai_latest_5 ?_
  exact ev_iret d_Ai_latest_6 rfl rfl hq
/-! Ai_find -/
theorem d_Ai_find_0 : decode m_Ai_find.2.1 0 = .ok (.iload_n 1, 1) := by decide +kernel
theorem d_Ai_find_1 : decode m_Ai_find.2.1 1 = .ok (.ifCond .lt 22, 3) := by decide +kernel
theorem d_Ai_find_4 : decode m_Ai_find.2.1 4 = .ok (.iload_n 1, 1) := by decide +kernel
theorem d_Ai_find_5 : decode m_Ai_find.2.1 5 = .ok (.aload_n 0, 1) := by decide +kernel
theorem d_Ai_find_6 : decode m_Ai_find.2.1 6 = .ok (.getfield 17, 3) := by decide +kernel
theorem d_Ai_find_9 : decode m_Ai_find.2.1 9 = .ok (.if_icmp .ge 14, 3) := by decide +kernel
theorem d_Ai_find_12 : decode m_Ai_find.2.1 12 = .ok (.iload_n 1, 1) := by decide +kernel
theorem d_Ai_find_13 : decode m_Ai_find.2.1 13 = .ok (.aload_n 0, 1) := by decide +kernel
theorem d_Ai_find_14 : decode m_Ai_find.2.1 14 = .ok (.getfield 17, 3) := by decide +kernel
theorem d_Ai_find_17 : decode m_Ai_find.2.1 17 = .ok (.bipush 64, 2) := by decide +kernel
theorem d_Ai_find_19 : decode m_Ai_find.2.1 19 = .ok (.isub, 1) := by decide +kernel
theorem d_Ai_find_20 : decode m_Ai_find.2.1 20 = .ok (.if_icmp .ge 5, 3) := by decide +kernel
theorem d_Ai_find_23 : decode m_Ai_find.2.1 23 = .ok (.aconst_null, 1) := by decide +kernel
theorem d_Ai_find_24 : decode m_Ai_find.2.1 24 = .ok (.areturn, 1) := by decide +kernel
theorem d_Ai_find_25 : decode m_Ai_find.2.1 25 = .ok (.aload_n 0, 1) := by decide +kernel
theorem d_Ai_find_26 : decode m_Ai_find.2.1 26 = .ok (.getfield 11, 3) := by decide +kernel
theorem d_Ai_find_29 : decode m_Ai_find.2.1 29 = .ok (.iload_n 1, 1) := by decide +kernel
theorem d_Ai_find_30 : decode m_Ai_find.2.1 30 = .ok (.bipush 64, 2) := by decide +kernel
theorem d_Ai_find_32 : decode m_Ai_find.2.1 32 = .ok (.irem, 1) := by decide +kernel
theorem d_Ai_find_33 : decode m_Ai_find.2.1 33 = .ok (.aaload, 1) := by decide +kernel
theorem d_Ai_find_34 : decode m_Ai_find.2.1 34 = .ok (.astore_n 2, 1) := by decide +kernel
theorem d_Ai_find_35 : decode m_Ai_find.2.1 35 = .ok (.aload_n 2, 1) := by decide +kernel
theorem d_Ai_find_36 : decode m_Ai_find.2.1 36 = .ok (.ifnull 10, 3) := by decide +kernel
theorem d_Ai_find_39 : decode m_Ai_find.2.1 39 = .ok (.aload_n 2, 1) := by decide +kernel
theorem d_Ai_find_40 : decode m_Ai_find.2.1 40 = .ok (.getfield 28, 3) := by decide +kernel
theorem d_Ai_find_43 : decode m_Ai_find.2.1 43 = .ok (.ifCond .ne 7, 3) := by decide +kernel
theorem d_Ai_find_46 : decode m_Ai_find.2.1 46 = .ok (.aconst_null, 1) := by decide +kernel
theorem d_Ai_find_47 : decode m_Ai_find.2.1 47 = .ok (.goto 4, 3) := by decide +kernel
theorem d_Ai_find_50 : decode m_Ai_find.2.1 50 = .ok (.aload_n 2, 1) := by decide +kernel
theorem d_Ai_find_51 : decode m_Ai_find.2.1 51 = .ok (.areturn, 1) := by decide +kernel
theorem t_Ai_find_0 {d : Nat} {st : List Value} {o0 : Option Value} {x1 : Int32} {o2 : Option Value} {w : qk_W} {nc ns : Nat} {Q : Option Value ⊕ Nat → qk_W → Nat → Nat → Prop}   (kt : x1 < 0 → Ev d m_Ai_find 23 [o0, some (.int x1), o2] st w nc ns Q) (kf : ¬ (x1 < 0) → Ev d m_Ai_find 4 [o0, some (.int x1), o2] st w nc ns Q) : Ev d m_Ai_find 0 [o0, some (.int x1), o2] st w nc ns Q := by
  refine ev_iload_n d_Ai_find_0 rfl ?_
  exact ev_if_lt 23 d_Ai_find_1 (by decide) kt kf
theorem t_Ai_find_4 {d : Nat} {st : List Value} {a0 : Nat} {x1 : Int32} {o2 : Option Value} {fs2 : List Value} {n4 : Int32} {w : qk_W} {nc ns : Nat} {Q : Option Value ⊕ Nat → qk_W → Nat → Nat → Prop}  (hw1 : wo w a0 4 fs2) (hf3 : fs2[1]? = some (.int n4)) (kt : n4 ≤ x1 → Ev d m_Ai_find 23 [some (.ref a0), some (.int x1), o2] st w nc ns Q) (kf : ¬ (n4 ≤ x1) → Ev d m_Ai_find 12 [some (.ref a0), some (.int x1), o2] st w nc ns Q) : Ev d m_Ai_find 4 [some (.ref a0), some (.int x1), o2] st w nc ns Q := by
  refine ev_iload_n d_Ai_find_4 rfl ?_
  refine ev_aload_n d_Ai_find_5 rfl rfl ?_
  refine ev_getf d_Ai_find_6 fl_Ai_17 hw1.1 hw1.2 hf3 ?_
  exact ev_icmp_ge 23 d_Ai_find_9 (by decide) kt kf
theorem t_Ai_find_12 {d : Nat} {st : List Value} {a0 : Nat} {x1 : Int32} {o2 : Option Value} {fs2 : List Value} {n4 : Int32} {w : qk_W} {nc ns : Nat} {Q : Option Value ⊕ Nat → qk_W → Nat → Nat → Prop}  (hw1 : wo w a0 4 fs2) (hf3 : fs2[1]? = some (.int n4)) (kt : (n4 - 64) ≤ x1 → Ev d m_Ai_find 25 [some (.ref a0), some (.int x1), o2] st w nc ns Q) (kf : ¬ ((n4 - 64) ≤ x1) → Ev d m_Ai_find 23 [some (.ref a0), some (.int x1), o2] st w nc ns Q) : Ev d m_Ai_find 12 [some (.ref a0), some (.int x1), o2] st w nc ns Q := by
  refine ev_iload_n d_Ai_find_12 rfl ?_
  refine ev_aload_n d_Ai_find_13 rfl rfl ?_
  refine ev_getf d_Ai_find_14 fl_Ai_17 hw1.1 hw1.2 hf3 ?_
  refine ev_bipush 64 d_Ai_find_17 (by decide) ?_
  refine ev_isub d_Ai_find_19 ?_
  exact ev_icmp_ge 25 d_Ai_find_20 (by decide) kt kf
theorem t_Ai_find_23 {d : Nat} {o0 : Option Value} {o1 : Option Value} {o2 : Option Value} {w : qk_W} {nc ns : Nat} {Q : Option Value ⊕ Nat → qk_W → Nat → Nat → Prop}   (hq : Q (.inl (some (.null))) w nc ns) : Ev d m_Ai_find 23 [o0, o1, o2] [] w nc ns Q := by
  refine ev_null d_Ai_find_23 ?_
  exact ev_aret d_Ai_find_24 rfl rfl hq
theorem t_Ai_find_25 {d : Nat} {st : List Value} {a0 : Nat} {x1 : Int32} {o2 : Option Value} {fs2 : List Value} {c4 : Nat} {n6 : Nat} {f7 : Nat → Option Nat} {c10 : Nat} {w : qk_W} {nc ns : Nat} {Q : Option Value ⊕ Nat → qk_W → Nat → Nat → Prop}  (hw1 : wo w a0 4 fs2) (hf3 : fs2[0]? = some (.ref c4)) (ha5 : wr "QuakeLink$Message" w c4 n6 f7) (hi8 : vp_in (qi_rem x1 64) n6) (hr9 : f7 (qi_rem x1 64).toNatClampNeg = some c10) (k : Ev d m_Ai_find 39 [some (.ref a0), some (.int x1), some (.ref c10)] st w nc ns Q) : Ev d m_Ai_find 25 [some (.ref a0), some (.int x1), o2] st w nc ns Q := by
  refine ev_aload_n d_Ai_find_25 rfl rfl ?_
  refine ev_getf d_Ai_find_26 fl_Ai_11 hw1.1 hw1.2 hf3 ?_
  refine ev_iload_n d_Ai_find_29 rfl ?_
  refine ev_bipush 64 d_Ai_find_30 (by decide) ?_
  refine ev_irem d_Ai_find_32 (by decide) ?_
  refine ev_aald d_Ai_find_33 ha5.1 (by decide) ha5.2 hi8 ?_
  rw [hr9]
  show Ev _ _ _ _ (Value.ref c10 :: _) _ _ _ _
  refine ev_astore_n d_Ai_find_34 rfl (by decide) rfl ?_
  refine ev_aload_n d_Ai_find_35 rfl rfl ?_
  refine ev_ifnull_r d_Ai_find_36 ?_
  exact k
theorem t_Ai_find_25n {d : Nat} {st : List Value} {a0 : Nat} {x1 : Int32} {o2 : Option Value} {fs2 : List Value} {c4 : Nat} {n6 : Nat} {f7 : Nat → Option Nat} {w : qk_W} {nc ns : Nat} {Q : Option Value ⊕ Nat → qk_W → Nat → Nat → Prop}  (hw1 : wo w a0 4 fs2) (hf3 : fs2[0]? = some (.ref c4)) (ha5 : wr "QuakeLink$Message" w c4 n6 f7) (hi8 : vp_in (qi_rem x1 64) n6) (hr9 : f7 (qi_rem x1 64).toNatClampNeg = none) (k : Ev d m_Ai_find 46 [some (.ref a0), some (.int x1), some (.null)] st w nc ns Q) : Ev d m_Ai_find 25 [some (.ref a0), some (.int x1), o2] st w nc ns Q := by
  refine ev_aload_n d_Ai_find_25 rfl rfl ?_
  refine ev_getf d_Ai_find_26 fl_Ai_11 hw1.1 hw1.2 hf3 ?_
  refine ev_iload_n d_Ai_find_29 rfl ?_
  refine ev_bipush 64 d_Ai_find_30 (by decide) ?_
  refine ev_irem d_Ai_find_32 (by decide) ?_
  refine ev_aald d_Ai_find_33 ha5.1 (by decide) ha5.2 hi8 ?_
  rw [hr9]
  show Ev _ _ _ _ (Value.null :: _) _ _ _ _
  refine ev_astore_n d_Ai_find_34 rfl (by decide) rfl ?_
  refine ev_aload_n d_Ai_find_35 rfl rfl ?_
  refine ev_ifnull_n 46 d_Ai_find_36 (by decide) ?_
  exact k
theorem t_Ai_find_39 {d : Nat} {st : List Value} {o0 : Option Value} {o1 : Option Value} {a2 : Nat} {fs2 : List Value} {n4 : Int32} {w : qk_W} {nc ns : Nat} {Q : Option Value ⊕ Nat → qk_W → Nat → Nat → Prop}  (hw1 : wo w a2 8 fs2) (hf3 : fs2[1]? = some (.int n4)) (kt : ¬ n4 = 0 → Ev d m_Ai_find 50 [o0, o1, some (.ref a2)] st w nc ns Q) (kf : n4 = 0 → Ev d m_Ai_find 46 [o0, o1, some (.ref a2)] st w nc ns Q) : Ev d m_Ai_find 39 [o0, o1, some (.ref a2)] st w nc ns Q := by
  refine ev_aload_n d_Ai_find_39 rfl rfl ?_
  refine ev_getf d_Ai_find_40 fl_Ai_28 hw1.1 hw1.2 hf3 ?_
  exact ev_if_ne 50 d_Ai_find_43 (by decide) kt kf
theorem t_Ai_find_46 {d : Nat} {o0 : Option Value} {o1 : Option Value} {o2 : Option Value} {w : qk_W} {nc ns : Nat} {Q : Option Value ⊕ Nat → qk_W → Nat → Nat → Prop}   (hq : Q (.inl (some (.null))) w nc ns) : Ev d m_Ai_find 46 [o0, o1, o2] [] w nc ns Q := by
  refine ev_null d_Ai_find_46 ?_
  refine ev_goto 51 d_Ai_find_47 (by decide) ?_
  exact ev_aret d_Ai_find_51 rfl rfl hq
theorem t_Ai_find_50 {d : Nat} {o0 : Option Value} {o1 : Option Value} {v2 : Value} {w : qk_W} {nc ns : Nat} {Q : Option Value ⊕ Nat → qk_W → Nat → Nat → Prop} (hv2 : qk_isr v2 = true)  (hq : Q (.inl (some (v2))) w nc ns) : Ev d m_Ai_find 50 [o0, o1, some v2] [] w nc ns Q := by
  refine ev_aload_n d_Ai_find_50 rfl hv2 ?_
  exact ev_aret d_Ai_find_51 rfl hv2 hq
/-! De_init -/
theorem ob_De_3 : Cond.methodLink "QuakeLink$Decoder" 3 Lib.objectInit ∈ lw_tbl := (lw_i3 _ (List.mem_of_getElem? (i := 164) rfl))
theorem fl_De_9 : qk_fl "QuakeLink$Decoder" 9 9 3 := ⟨_, rfl, by decide, rfl, (lw_i3 _ (List.mem_of_getElem? (i := 171) rfl))⟩
theorem fl_De_15 : qk_fl "QuakeLink$Decoder" 15 9 1 := ⟨_, rfl, by decide, rfl, (lw_i3 _ (List.mem_of_getElem? (i := 169) rfl))⟩
theorem fl_De_19 : qk_fl "QuakeLink$Decoder" 19 8 1 := ⟨_, rfl, by decide, rfl, (lw_i1 _ (List.mem_of_getElem? (i := 233) rfl))⟩
theorem fl_De_24 : qk_fl "QuakeLink$Decoder" 24 9 2 := ⟨_, rfl, by decide, rfl, (lw_i3 _ (List.mem_of_getElem? (i := 170) rfl))⟩
theorem cw_De_27 : qk_cw "QuakeLink$Decoder" m_Me_value.1 (.invokevirtual 27) := ⟨(lw_i3 _ (List.mem_of_getElem? (i := 165) rfl)), (lw_i3 _ (List.mem_of_getElem? (i := 142) rfl)), (lw_i3 _ (List.mem_of_getElem? (i := 143) rfl))⟩
theorem fl_De_31 : qk_fl "QuakeLink$Decoder" 31 9 0 := ⟨_, rfl, by decide, rfl, (lw_i3 _ (List.mem_of_getElem? (i := 166) rfl))⟩
theorem d_De_init_0 : decode m_De_init.2.1 0 = .ok (.aload_n 0, 1) := by decide +kernel
theorem d_De_init_1 : decode m_De_init.2.1 1 = .ok (.invokespecial 3, 3) := by decide +kernel
theorem d_De_init_4 : decode m_De_init.2.1 4 = .ok (.aload_n 0, 1) := by decide +kernel
theorem d_De_init_5 : decode m_De_init.2.1 5 = .ok (.bipush 20, 2) := by decide +kernel
theorem d_De_init_7 : decode m_De_init.2.1 7 = .ok (.putfield 9, 3) := by decide +kernel
theorem d_De_init_10 : decode m_De_init.2.1 10 = .ok (.aload_n 0, 1) := by decide +kernel
theorem d_De_init_11 : decode m_De_init.2.1 11 = .ok (.aload_n 1, 1) := by decide +kernel
theorem d_De_init_12 : decode m_De_init.2.1 12 = .ok (.putfield 15, 3) := by decide +kernel
theorem d_De_init_15 : decode m_De_init.2.1 15 = .ok (.aload_n 0, 1) := by decide +kernel
theorem d_De_init_16 : decode m_De_init.2.1 16 = .ok (.aload_n 1, 1) := by decide +kernel
theorem d_De_init_17 : decode m_De_init.2.1 17 = .ok (.getfield 19, 3) := by decide +kernel
theorem d_De_init_20 : decode m_De_init.2.1 20 = .ok (.iconst 4, 1) := by decide +kernel
theorem d_De_init_21 : decode m_De_init.2.1 21 = .ok (.isub, 1) := by decide +kernel
theorem d_De_init_22 : decode m_De_init.2.1 22 = .ok (.putfield 24, 3) := by decide +kernel
theorem d_De_init_25 : decode m_De_init.2.1 25 = .ok (.aload_n 0, 1) := by decide +kernel
theorem d_De_init_26 : decode m_De_init.2.1 26 = .ok (.aload_n 1, 1) := by decide +kernel
theorem d_De_init_27 : decode m_De_init.2.1 27 = .ok (.bipush 12, 2) := by decide +kernel
theorem d_De_init_29 : decode m_De_init.2.1 29 = .ok (.invokevirtual 27, 3) := by decide +kernel
theorem d_De_init_32 : decode m_De_init.2.1 32 = .ok (.putfield 31, 3) := by decide +kernel
theorem d_De_init_35 : decode m_De_init.2.1 35 = .ok (.return_, 1) := by decide +kernel
theorem t_De_init_0 {d : Nat} {st : List Value} {a0 : Nat} {o1 : Option Value} {w : qk_W} {nc ns : Nat} {Q : Option Value ⊕ Nat → qk_W → Nat → Nat → Prop}  (h8 : (st.map fun v => Value.category v).sum ≤ 8) (k : Ev (d + 1) m_De_init 4 [some (.ref a0), o1] st w nc ns Q) : Ev (d + 1) m_De_init 0 [some (.ref a0), o1] st w nc ns Q := by
  refine ev_aload_n d_De_init_0 rfl rfl ?_
  exact ev_obj d_De_init_1 ob_De_3 ob_inst ob_code (by omega) h8 k
theorem t_De_init_4 {d : Nat} {st : List Value} {a0 : Nat} {o1 : Option Value} {fs2 : List Value} {w : qk_W} {nc ns : Nat} {Q : Option Value ⊕ Nat → qk_W → Nat → Nat → Prop}  (hw1 : wo w a0 9 fs2) (hk : 3 < fs2.length) (k : Ev d m_De_init 10 [some (.ref a0), o1] st (qk_set w a0 (.inr (9, fs2.set 3 (.int 20)))) nc ns Q) : Ev d m_De_init 4 [some (.ref a0), o1] st w nc ns Q := by
  refine ev_aload_n d_De_init_4 rfl rfl ?_
  refine ev_bipush 20 d_De_init_5 (by decide) ?_
  exact ev_putf d_De_init_7 fl_De_9 rfl hw1.1 hw1.2 hk (qk_fitI _) k
theorem t_De_init_10 {d : Nat} {st : List Value} {a0 : Nat} {v1 : Value} {fs2 : List Value} {w : qk_W} {nc ns : Nat} {Q : Option Value ⊕ Nat → qk_W → Nat → Nat → Prop} (hv1 : qk_isr v1 = true) (hw1 : wo w a0 9 fs2) (hk : 1 < fs2.length) (hz : qk_fit (qk_fty 9 1) v1 = true) (k : Ev d m_De_init 15 [some (.ref a0), some v1] st (qk_set w a0 (.inr (9, fs2.set 1 (v1)))) nc ns Q) : Ev d m_De_init 10 [some (.ref a0), some v1] st w nc ns Q := by
  refine ev_aload_n d_De_init_10 rfl rfl ?_
  refine ev_aload_n d_De_init_11 rfl hv1 ?_
  exact ev_putF d_De_init_12 fl_De_15 rfl rfl rfl hw1.1 hw1.2 hk hz k
theorem t_De_init_15 {d : Nat} {st : List Value} {a0 : Nat} {a1 : Nat} {fs2 : List Value} {n4 : Int32} {fs6 : List Value} {w : qk_W} {nc ns : Nat} {Q : Option Value ⊕ Nat → qk_W → Nat → Nat → Prop}  (hw1 : wo w a1 8 fs2) (hf3 : fs2[1]? = some (.int n4)) (hw5 : wo w a0 9 fs6) (hk : 2 < fs6.length) (k : Ev d m_De_init 25 [some (.ref a0), some (.ref a1)] st (qk_set w a0 (.inr (9, fs6.set 2 (.int (n4 - 4))))) nc ns Q) : Ev d m_De_init 15 [some (.ref a0), some (.ref a1)] st w nc ns Q := by
  refine ev_aload_n d_De_init_15 rfl rfl ?_
  refine ev_aload_n d_De_init_16 rfl rfl ?_
  refine ev_getf d_De_init_17 fl_De_19 hw1.1 hw1.2 hf3 ?_
  refine ev_iconst 4 d_De_init_20 (by decide) ?_
  refine ev_isub d_De_init_21 ?_
  exact ev_putF d_De_init_22 fl_De_24 rfl rfl rfl hw5.1 hw5.2 hk (qk_fitI _) k
theorem t_De_init_25 {d : Nat} {st : List Value} {v0 : Value} {a1 : Nat} {fsb : List Value} {w : qk_W} {nc ns : Nat} {Q : Option Value ⊕ Nat → qk_W → Nat → Nat → Prop} (hv0 : qk_isr v0 = true) (hb : wo w a1 8 fsb) (h8 : ((v0 :: st).map fun v => Value.category v).sum ≤ 8) (k : Ev d m_Me_value 0 [some (.ref a1), some (.int 12)] [] w nc ns (fun r w1 nc1 ns1 => match r with | .inl v => Ev (d + 1) m_De_init 32 [some v0, some (.ref a1)] (v.toList ++ (v0 :: st)) w1 nc1 ns1 Q | .inr x => Q (.inr x) w1 nc1 ns1)) : Ev (d + 1) m_De_init 25 [some v0, some (.ref a1)] st w nc ns Q := by
  refine ev_aload_n d_De_init_25 rfl hv0 ?_
  refine ev_aload_n d_De_init_26 rfl rfl ?_
  refine ev_bipush 12 d_De_init_27 (by decide) ?_
  exact ev_call (M' := m_Me_value) (As := [.ref a1, .int 12]) (st := (v0 :: st)) d_De_init_29 i_Me_value (fun h => absurd h (by decide +kernel)) cw_De_27 rfl rfl ⟨hb.1, 8, _, _, hb.2, rfl, rfl⟩ rfl (Nat.le_of_ble_eq_true rfl) h8 k
theorem t_De_init_32 {d : Nat} {st : List Value} {o0 : Option Value} {o1 : Option Value} {y0 : Int32} {b1 : Nat} {fs2 : List Value} {w : qk_W} {nc ns : Nat} {Q : Option Value ⊕ Nat → qk_W → Nat → Nat → Prop}  (hw1 : wo w b1 9 fs2) (hk : 0 < fs2.length) (k : Ev d m_De_init 35 [o0, o1] st (qk_set w b1 (.inr (9, fs2.set 0 (.int y0)))) nc ns Q) : Ev d m_De_init 32 [o0, o1] (.int y0 :: .ref b1 :: st) w nc ns Q := by
  exact ev_putf d_De_init_32 fl_De_31 rfl hw1.1 hw1.2 hk (qk_fitI _) k
theorem t_De_init_35 {d : Nat} {o0 : Option Value} {o1 : Option Value} {w : qk_W} {nc ns : Nat} {Q : Option Value ⊕ Nat → qk_W → Nat → Nat → Prop}   (hq : Q (.inl none) w nc ns) : Ev d m_De_init 35 [o0, o1] [] w nc ns Q := by
  exact ev_vret d_De_init_35 rfl hq
/-! De_advance -/
theorem fl_De_33 : qk_fl "QuakeLink$Decoder" 33 9 6 := ⟨_, rfl, by decide, rfl, (lw_i3 _ (List.mem_of_getElem? (i := 174) rfl))⟩
theorem cw_De_36 : qk_cw "QuakeLink$Decoder" m_De_readWidth.1 (.invokevirtual 36) := ⟨(lw_i3 _ (List.mem_of_getElem? (i := 200) rfl)), (lw_i3 _ (List.mem_of_getElem? (i := 202) rfl)), (lw_i0 _ (List.mem_of_getElem? (i := 15) rfl))⟩
theorem fl_De_40 : qk_fl "QuakeLink$Decoder" 40 9 7 := ⟨_, rfl, by decide, rfl, (lw_i3 _ (List.mem_of_getElem? (i := 175) rfl))⟩
theorem cw_De_43 : qk_cw "QuakeLink$Decoder" m_De_isLeft.1 (.invokevirtual 43) := ⟨(lw_i3 _ (List.mem_of_getElem? (i := 204) rfl)), (lw_i3 _ (List.mem_of_getElem? (i := 206) rfl)), (lw_i0 _ (List.mem_of_getElem? (i := 16) rfl))⟩
theorem fl_De_47 : qk_fl "QuakeLink$Decoder" 47 9 8 := ⟨_, rfl, by decide, rfl, (lw_i3 _ (List.mem_of_getElem? (i := 176) rfl))⟩
theorem cw_De_50 : qk_cw "QuakeLink$Decoder" m_De_read.1 (.invokevirtual 50) := ⟨(lw_i3 _ (List.mem_of_getElem? (i := 208) rfl)), (lw_i3 _ (List.mem_of_getElem? (i := 210) rfl)), (lw_i0 _ (List.mem_of_getElem? (i := 17) rfl))⟩
theorem d_De_advance_0 : decode m_De_advance.2.1 0 = .ok (.aload_n 0, 1) := by decide +kernel
theorem d_De_advance_1 : decode m_De_advance.2.1 1 = .ok (.getfield 33, 3) := by decide +kernel
theorem d_De_advance_4 : decode m_De_advance.2.1 4 = .ok (.ifCond .ne 12, 3) := by decide +kernel
theorem d_De_advance_7 : decode m_De_advance.2.1 7 = .ok (.aload_n 0, 1) := by decide +kernel
theorem d_De_advance_8 : decode m_De_advance.2.1 8 = .ok (.invokevirtual 36, 3) := by decide +kernel
theorem d_De_advance_11 : decode m_De_advance.2.1 11 = .ok (.ifCond .ne 5, 3) := by decide +kernel
theorem d_De_advance_14 : decode m_De_advance.2.1 14 = .ok (.iconst 0, 1) := by decide +kernel
theorem d_De_advance_15 : decode m_De_advance.2.1 15 = .ok (.ireturn, 1) := by decide +kernel
theorem d_De_advance_16 : decode m_De_advance.2.1 16 = .ok (.aload_n 0, 1) := by decide +kernel
theorem d_De_advance_17 : decode m_De_advance.2.1 17 = .ok (.aload_n 0, 1) := by decide +kernel
theorem d_De_advance_18 : decode m_De_advance.2.1 18 = .ok (.getfield 33, 3) := by decide +kernel
theorem d_De_advance_21 : decode m_De_advance.2.1 21 = .ok (.bipush 14, 2) := by decide +kernel
theorem d_De_advance_23 : decode m_De_advance.2.1 23 = .ok (.if_icmp .ne 7, 3) := by decide +kernel
theorem d_De_advance_26 : decode m_De_advance.2.1 26 = .ok (.iconst 0, 1) := by decide +kernel
theorem d_De_advance_27 : decode m_De_advance.2.1 27 = .ok (.goto 9, 3) := by decide +kernel
theorem d_De_advance_30 : decode m_De_advance.2.1 30 = .ok (.aload_n 0, 1) := by decide +kernel
theorem d_De_advance_31 : decode m_De_advance.2.1 31 = .ok (.getfield 33, 3) := by decide +kernel
theorem d_De_advance_34 : decode m_De_advance.2.1 34 = .ok (.iconst 1, 1) := by decide +kernel
theorem d_De_advance_35 : decode m_De_advance.2.1 35 = .ok (.iadd, 1) := by decide +kernel
theorem d_De_advance_36 : decode m_De_advance.2.1 36 = .ok (.putfield 33, 3) := by decide +kernel
theorem d_De_advance_39 : decode m_De_advance.2.1 39 = .ok (.aload_n 0, 1) := by decide +kernel
theorem d_De_advance_40 : decode m_De_advance.2.1 40 = .ok (.getfield 40, 3) := by decide +kernel
theorem d_De_advance_43 : decode m_De_advance.2.1 43 = .ok (.ifCond .le 45, 3) := by decide +kernel
theorem d_De_advance_46 : decode m_De_advance.2.1 46 = .ok (.aload_n 0, 1) := by decide +kernel
theorem d_De_advance_47 : decode m_De_advance.2.1 47 = .ok (.aload_n 0, 1) := by decide +kernel
theorem d_De_advance_48 : decode m_De_advance.2.1 48 = .ok (.getfield 40, 3) := by decide +kernel
theorem d_De_advance_51 : decode m_De_advance.2.1 51 = .ok (.invokevirtual 43, 3) := by decide +kernel
theorem d_De_advance_54 : decode m_De_advance.2.1 54 = .ok (.ifCond .ne 5, 3) := by decide +kernel
theorem d_De_advance_57 : decode m_De_advance.2.1 57 = .ok (.iconst 0, 1) := by decide +kernel
theorem d_De_advance_58 : decode m_De_advance.2.1 58 = .ok (.ireturn, 1) := by decide +kernel
theorem d_De_advance_59 : decode m_De_advance.2.1 59 = .ok (.bipush 32, 2) := by decide +kernel
theorem d_De_advance_61 : decode m_De_advance.2.1 61 = .ok (.aload_n 0, 1) := by decide +kernel
theorem d_De_advance_62 : decode m_De_advance.2.1 62 = .ok (.getfield 40, 3) := by decide +kernel
theorem d_De_advance_65 : decode m_De_advance.2.1 65 = .ok (.isub, 1) := by decide +kernel
theorem d_De_advance_66 : decode m_De_advance.2.1 66 = .ok (.istore_n 1, 1) := by decide +kernel
theorem d_De_advance_67 : decode m_De_advance.2.1 67 = .ok (.aload_n 0, 1) := by decide +kernel
theorem d_De_advance_68 : decode m_De_advance.2.1 68 = .ok (.dup, 1) := by decide +kernel
theorem d_De_advance_69 : decode m_De_advance.2.1 69 = .ok (.getfield 47, 3) := by decide +kernel
theorem d_De_advance_72 : decode m_De_advance.2.1 72 = .ok (.aload_n 0, 1) := by decide +kernel
theorem d_De_advance_73 : decode m_De_advance.2.1 73 = .ok (.aload_n 0, 1) := by decide +kernel
theorem d_De_advance_74 : decode m_De_advance.2.1 74 = .ok (.getfield 40, 3) := by decide +kernel
theorem d_De_advance_77 : decode m_De_advance.2.1 77 = .ok (.invokevirtual 50, 3) := by decide +kernel
theorem d_De_advance_80 : decode m_De_advance.2.1 80 = .ok (.iload_n 1, 1) := by decide +kernel
theorem d_De_advance_81 : decode m_De_advance.2.1 81 = .ok (.ishl, 1) := by decide +kernel
theorem d_De_advance_82 : decode m_De_advance.2.1 82 = .ok (.iload_n 1, 1) := by decide +kernel
theorem d_De_advance_83 : decode m_De_advance.2.1 83 = .ok (.ishr, 1) := by decide +kernel
theorem d_De_advance_84 : decode m_De_advance.2.1 84 = .ok (.iadd, 1) := by decide +kernel
theorem d_De_advance_85 : decode m_De_advance.2.1 85 = .ok (.putfield 47, 3) := by decide +kernel
theorem d_De_advance_88 : decode m_De_advance.2.1 88 = .ok (.aload_n 0, 1) := by decide +kernel
theorem d_De_advance_89 : decode m_De_advance.2.1 89 = .ok (.dup, 1) := by decide +kernel
theorem d_De_advance_90 : decode m_De_advance.2.1 90 = .ok (.getfield 31, 3) := by decide +kernel
theorem d_De_advance_93 : decode m_De_advance.2.1 93 = .ok (.aload_n 0, 1) := by decide +kernel
theorem d_De_advance_94 : decode m_De_advance.2.1 94 = .ok (.getfield 47, 3) := by decide +kernel
theorem d_De_advance_97 : decode m_De_advance.2.1 97 = .ok (.iadd, 1) := by decide +kernel
theorem d_De_advance_98 : decode m_De_advance.2.1 98 = .ok (.putfield 31, 3) := by decide +kernel
theorem d_De_advance_101 : decode m_De_advance.2.1 101 = .ok (.iconst 1, 1) := by decide +kernel
theorem d_De_advance_102 : decode m_De_advance.2.1 102 = .ok (.ireturn, 1) := by decide +kernel
theorem t_De_advance_0 {d : Nat} {st : List Value} {a0 : Nat} {o1 : Option Value} {fs2 : List Value} {n4 : Int32} {w : qk_W} {nc ns : Nat} {Q : Option Value ⊕ Nat → qk_W → Nat → Nat → Prop}  (hw1 : wo w a0 9 fs2) (hf3 : fs2[6]? = some (.int n4)) (kt : ¬ n4 = 0 → Ev d m_De_advance 16 [some (.ref a0), o1] st w nc ns Q) (kf : n4 = 0 → Ev d m_De_advance 7 [some (.ref a0), o1] st w nc ns Q) : Ev d m_De_advance 0 [some (.ref a0), o1] st w nc ns Q := by
  refine ev_aload_n d_De_advance_0 rfl rfl ?_
  refine ev_getf d_De_advance_1 fl_De_33 hw1.1 hw1.2 hf3 ?_
  exact ev_if_ne 16 d_De_advance_4 (by decide) kt kf
theorem t_De_advance_7 {d : Nat} {st : List Value} {a0 : Nat} {o1 : Option Value} {fsb : List Value} {w : qk_W} {nc ns : Nat} {Q : Option Value ⊕ Nat → qk_W → Nat → Nat → Prop}  (hb : wo w a0 9 fsb) (h8 : (st.map fun v => Value.category v).sum ≤ 8) (k : Ev d m_De_readWidth 0 [some (.ref a0), none] [] w nc ns (fun r w1 nc1 ns1 => match r with | .inl v => Ev (d + 1) m_De_advance 11 [some (.ref a0), o1] (v.toList ++ st) w1 nc1 ns1 Q | .inr x => Q (.inr x) w1 nc1 ns1)) : Ev (d + 1) m_De_advance 7 [some (.ref a0), o1] st w nc ns Q := by
  refine ev_aload_n d_De_advance_7 rfl rfl ?_
  exact ev_call (M' := m_De_readWidth) (As := [.ref a0]) (st := st) d_De_advance_8 i_De_readWidth (fun h => absurd h (by decide +kernel)) cw_De_36 rfl rfl ⟨hb.1, 9, _, _, hb.2, rfl, rfl⟩ rfl (Nat.le_of_ble_eq_true rfl) h8 k
theorem t_De_advance_11 {d : Nat} {st : List Value} {o0 : Option Value} {o1 : Option Value} {y0 : Int32} {w : qk_W} {nc ns : Nat} {Q : Option Value ⊕ Nat → qk_W → Nat → Nat → Prop}   (kt : ¬ y0 = 0 → Ev d m_De_advance 16 [o0, o1] st w nc ns Q) (kf : y0 = 0 → Ev d m_De_advance 14 [o0, o1] st w nc ns Q) : Ev d m_De_advance 11 [o0, o1] (.int y0 :: st) w nc ns Q := by
  exact ev_if_ne 16 d_De_advance_11 (by decide) kt kf
theorem t_De_advance_14 {d : Nat} {o0 : Option Value} {o1 : Option Value} {w : qk_W} {nc ns : Nat} {Q : Option Value ⊕ Nat → qk_W → Nat → Nat → Prop}   (hq : Q (.inl (some (.int 0))) w nc ns) : Ev d m_De_advance 14 [o0, o1] [] w nc ns Q := by
  refine ev_iconst 0 d_De_advance_14 (by decide) ?_
  exact ev_iret d_De_advance_15 rfl rfl hq
theorem t_De_advance_16 {d : Nat} {st : List Value} {a0 : Nat} {o1 : Option Value} {fs2 : List Value} {n4 : Int32} {w : qk_W} {nc ns : Nat} {Q : Option Value ⊕ Nat → qk_W → Nat → Nat → Prop}  (hw1 : wo w a0 9 fs2) (hf3 : fs2[6]? = some (.int n4)) (kt : ¬ n4 = (14 : Int32) → Ev d m_De_advance 30 [some (.ref a0), o1] (.ref a0 :: st) w nc ns Q) (kf : n4 = (14 : Int32) → Ev d m_De_advance 26 [some (.ref a0), o1] (.ref a0 :: st) w nc ns Q) : Ev d m_De_advance 16 [some (.ref a0), o1] st w nc ns Q := by
  refine ev_aload_n d_De_advance_16 rfl rfl ?_
  refine ev_aload_n d_De_advance_17 rfl rfl ?_
  refine ev_getf d_De_advance_18 fl_De_33 hw1.1 hw1.2 hf3 ?_
  refine ev_bipush 14 d_De_advance_21 (by decide) ?_
  exact ev_icmp_ne 30 d_De_advance_23 (by decide) kt kf
theorem t_De_advance_26 {d : Nat} {st : List Value} {o0 : Option Value} {o1 : Option Value} {b0 : Nat} {fs2 : List Value} {w : qk_W} {nc ns : Nat} {Q : Option Value ⊕ Nat → qk_W → Nat → Nat → Prop}  (hw1 : wo w b0 9 fs2) (hk : 6 < fs2.length) (k : Ev d m_De_advance 39 [o0, o1] st (qk_set w b0 (.inr (9, fs2.set 6 (.int 0)))) nc ns Q) : Ev d m_De_advance 26 [o0, o1] (.ref b0 :: st) w nc ns Q := by
  refine ev_iconst 0 d_De_advance_26 (by decide) ?_
  refine ev_goto 36 d_De_advance_27 (by decide) ?_
  exact ev_putf d_De_advance_36 fl_De_33 rfl hw1.1 hw1.2 hk (qk_fitI _) k
theorem t_De_advance_30 {d : Nat} {st : List Value} {a0 : Nat} {o1 : Option Value} {b0 : Nat} {fs2 : List Value} {n4 : Int32} {fs6 : List Value} {w : qk_W} {nc ns : Nat} {Q : Option Value ⊕ Nat → qk_W → Nat → Nat → Prop}  (hw1 : wo w a0 9 fs2) (hf3 : fs2[6]? = some (.int n4)) (hw5 : wo w b0 9 fs6) (hk : 6 < fs6.length) (k : Ev d m_De_advance 39 [some (.ref a0), o1] st (qk_set w b0 (.inr (9, fs6.set 6 (.int (n4 + 1))))) nc ns Q) : Ev d m_De_advance 30 [some (.ref a0), o1] (.ref b0 :: st) w nc ns Q := by
  refine ev_aload_n d_De_advance_30 rfl rfl ?_
  refine ev_getf d_De_advance_31 fl_De_33 hw1.1 hw1.2 hf3 ?_
  refine ev_iconst 1 d_De_advance_34 (by decide) ?_
  refine ev_iadd d_De_advance_35 ?_
  exact ev_putf d_De_advance_36 fl_De_33 rfl hw5.1 hw5.2 hk (qk_fitI _) k
theorem t_De_advance_39 {d : Nat} {st : List Value} {a0 : Nat} {o1 : Option Value} {fs2 : List Value} {n4 : Int32} {w : qk_W} {nc ns : Nat} {Q : Option Value ⊕ Nat → qk_W → Nat → Nat → Prop}  (hw1 : wo w a0 9 fs2) (hf3 : fs2[7]? = some (.int n4)) (kt : n4 ≤ 0 → Ev d m_De_advance 88 [some (.ref a0), o1] st w nc ns Q) (kf : ¬ (n4 ≤ 0) → Ev d m_De_advance 46 [some (.ref a0), o1] st w nc ns Q) : Ev d m_De_advance 39 [some (.ref a0), o1] st w nc ns Q := by
  refine ev_aload_n d_De_advance_39 rfl rfl ?_
  refine ev_getf d_De_advance_40 fl_De_40 hw1.1 hw1.2 hf3 ?_
  exact ev_if_le 88 d_De_advance_43 (by decide) kt kf
theorem t_De_advance_46 {d : Nat} {st : List Value} {a0 : Nat} {o1 : Option Value} {fs2 : List Value} {n4 : Int32} {w : qk_W} {nc ns : Nat} {Q : Option Value ⊕ Nat → qk_W → Nat → Nat → Prop}  (hw1 : wo w a0 9 fs2) (hf3 : fs2[7]? = some (.int n4)) (h8 : (st.map fun v => Value.category v).sum ≤ 8) (k : Ev d m_De_isLeft 0 [some (.ref a0), some (.int n4)] [] w nc ns (fun r w1 nc1 ns1 => match r with | .inl v => Ev (d + 1) m_De_advance 54 [some (.ref a0), o1] (v.toList ++ st) w1 nc1 ns1 Q | .inr x => Q (.inr x) w1 nc1 ns1)) : Ev (d + 1) m_De_advance 46 [some (.ref a0), o1] st w nc ns Q := by
  refine ev_aload_n d_De_advance_46 rfl rfl ?_
  refine ev_aload_n d_De_advance_47 rfl rfl ?_
  refine ev_getf d_De_advance_48 fl_De_40 hw1.1 hw1.2 hf3 ?_
  exact ev_call (M' := m_De_isLeft) (As := [.ref a0, .int n4]) (st := st) d_De_advance_51 i_De_isLeft (fun h => absurd h (by decide +kernel)) cw_De_43 rfl rfl ⟨hw1.1, 9, _, _, hw1.2, rfl, rfl⟩ rfl (Nat.le_of_ble_eq_true rfl) h8 k
theorem t_De_advance_54 {d : Nat} {st : List Value} {o0 : Option Value} {o1 : Option Value} {y0 : Int32} {w : qk_W} {nc ns : Nat} {Q : Option Value ⊕ Nat → qk_W → Nat → Nat → Prop}   (kt : ¬ y0 = 0 → Ev d m_De_advance 59 [o0, o1] st w nc ns Q) (kf : y0 = 0 → Ev d m_De_advance 57 [o0, o1] st w nc ns Q) : Ev d m_De_advance 54 [o0, o1] (.int y0 :: st) w nc ns Q := by
  exact ev_if_ne 59 d_De_advance_54 (by decide) kt kf
theorem t_De_advance_57 {d : Nat} {o0 : Option Value} {o1 : Option Value} {w : qk_W} {nc ns : Nat} {Q : Option Value ⊕ Nat → qk_W → Nat → Nat → Prop}   (hq : Q (.inl (some (.int 0))) w nc ns) : Ev d m_De_advance 57 [o0, o1] [] w nc ns Q := by
  refine ev_iconst 0 d_De_advance_57 (by decide) ?_
  exact ev_iret d_De_advance_58 rfl rfl hq
theorem t_De_advance_59 {d : Nat} {st : List Value} {a0 : Nat} {o1 : Option Value} {fs2 : List Value} {n4 : Int32} {n8 : Int32} {w : qk_W} {nc ns : Nat} {Q : Option Value ⊕ Nat → qk_W → Nat → Nat → Prop}  (hw1 : wo w a0 9 fs2) (hf3 : fs2[7]? = some (.int n4)) (hf7 : fs2[8]? = some (.int n8)) (h8 : ((.int n8 :: .ref a0 :: st).map fun v => Value.category v).sum ≤ 8) (k : Ev d m_De_read 0 [some (.ref a0), some (.int n4)] [] w nc ns (fun r w1 nc1 ns1 => match r with | .inl v => Ev (d + 1) m_De_advance 80 [some (.ref a0), some (.int (32 - n4))] (v.toList ++ (.int n8 :: .ref a0 :: st)) w1 nc1 ns1 Q | .inr x => Q (.inr x) w1 nc1 ns1)) : Ev (d + 1) m_De_advance 59 [some (.ref a0), o1] st w nc ns Q := by
  refine ev_bipush 32 d_De_advance_59 (by decide) ?_
  refine ev_aload_n d_De_advance_61 rfl rfl ?_
  refine ev_getf d_De_advance_62 fl_De_40 hw1.1 hw1.2 hf3 ?_
  refine ev_isub d_De_advance_65 ?_
  refine ev_istore_n d_De_advance_66 (by decide) rfl ?_
  refine ev_aload_n d_De_advance_67 rfl rfl ?_
  refine ev_dup d_De_advance_68 rfl ?_
  refine ev_getf d_De_advance_69 fl_De_47 hw1.1 hw1.2 hf7 ?_
  refine ev_aload_n d_De_advance_72 rfl rfl ?_
  refine ev_aload_n d_De_advance_73 rfl rfl ?_
  refine ev_getf d_De_advance_74 fl_De_40 hw1.1 hw1.2 hf3 ?_
  exact ev_call (M' := m_De_read) (As := [.ref a0, .int n4]) (st := (.int n8 :: .ref a0 :: st)) d_De_advance_77 i_De_read (fun h => absurd h (by decide +kernel)) cw_De_50 rfl rfl ⟨hw1.1, 9, _, _, hw1.2, rfl, rfl⟩ rfl (Nat.le_of_ble_eq_true rfl) h8 k
theorem t_De_advance_80 {d : Nat} {st : List Value} {o0 : Option Value} {x1 : Int32} {y0 : Int32} {y1 : Int32} {b2 : Nat} {fs2 : List Value} {w : qk_W} {nc ns : Nat} {Q : Option Value ⊕ Nat → qk_W → Nat → Nat → Prop}  (hw1 : wo w b2 9 fs2) (hk : 8 < fs2.length) (k : Ev d m_De_advance 88 [o0, some (.int x1)] st (qk_set w b2 (.inr (9, fs2.set 8 (.int (y1 + (qi_shr (qi_shl y0 x1) x1)))))) nc ns Q) : Ev d m_De_advance 80 [o0, some (.int x1)] (.int y0 :: .int y1 :: .ref b2 :: st) w nc ns Q := by
  refine ev_iload_n d_De_advance_80 rfl ?_
  refine ev_ishl d_De_advance_81 ?_
  refine ev_iload_n d_De_advance_82 rfl ?_
  refine ev_ishr d_De_advance_83 ?_
  refine ev_iadd d_De_advance_84 ?_
  exact ev_putf d_De_advance_85 fl_De_47 rfl hw1.1 hw1.2 hk (qk_fitI _) k
theorem t_De_advance_88 {d : Nat} {st : List Value} {a0 : Nat} {o1 : Option Value} {fs2 : List Value} {n4 : Int32} {n8 : Int32} {w : qk_W} {nc ns : Nat} {Q : Option Value ⊕ Nat → qk_W → Nat → Nat → Prop}  (hw1 : wo w a0 9 fs2) (hf3 : fs2[0]? = some (.int n4)) (hf7 : fs2[8]? = some (.int n8)) (hk : 0 < fs2.length) (k : Ev d m_De_advance 101 [some (.ref a0), o1] st (qk_set w a0 (.inr (9, fs2.set 0 (.int (n4 + n8))))) nc ns Q) : Ev d m_De_advance 88 [some (.ref a0), o1] st w nc ns Q := by
  refine ev_aload_n d_De_advance_88 rfl rfl ?_
  refine ev_dup d_De_advance_89 rfl ?_
  refine ev_getf d_De_advance_90 fl_De_31 hw1.1 hw1.2 hf3 ?_
  refine ev_aload_n d_De_advance_93 rfl rfl ?_
  refine ev_getf d_De_advance_94 fl_De_47 hw1.1 hw1.2 hf7 ?_
  refine ev_iadd d_De_advance_97 ?_
  exact ev_putf d_De_advance_98 fl_De_31 rfl hw1.1 hw1.2 hk (qk_fitI _) k
theorem t_De_advance_101 {d : Nat} {o0 : Option Value} {o1 : Option Value} {w : qk_W} {nc ns : Nat} {Q : Option Value ⊕ Nat → qk_W → Nat → Nat → Prop}   (hq : Q (.inl (some (.int 1))) w nc ns) : Ev d m_De_advance 101 [o0, o1] [] w nc ns Q := by
  refine ev_iconst 1 d_De_advance_101 (by decide) ?_
  exact ev_iret d_De_advance_102 rfl rfl hq
/-! De_readWidth -/
theorem fs_De_60 : Cond.fieldLinkNest "QuakeLink$Decoder" 60 "QuakeLink" "WIDTHS" "[I" "QuakeLink" ∈ lw_tbl := (lw_i3 _ (List.mem_of_getElem? (i := 212) rfl))
theorem d_De_readWidth_0 : decode m_De_readWidth.2.1 0 = .ok (.aload_n 0, 1) := by decide +kernel
theorem d_De_readWidth_1 : decode m_De_readWidth.2.1 1 = .ok (.iconst 4, 1) := by decide +kernel
theorem d_De_readWidth_2 : decode m_De_readWidth.2.1 2 = .ok (.invokevirtual 43, 3) := by decide +kernel
theorem d_De_readWidth_5 : decode m_De_readWidth.2.1 5 = .ok (.ifCond .ne 5, 3) := by decide +kernel
theorem d_De_readWidth_8 : decode m_De_readWidth.2.1 8 = .ok (.iconst 0, 1) := by decide +kernel
theorem d_De_readWidth_9 : decode m_De_readWidth.2.1 9 = .ok (.ireturn, 1) := by decide +kernel
theorem d_De_readWidth_10 : decode m_De_readWidth.2.1 10 = .ok (.aload_n 0, 1) := by decide +kernel
theorem d_De_readWidth_11 : decode m_De_readWidth.2.1 11 = .ok (.iconst 4, 1) := by decide +kernel
theorem d_De_readWidth_12 : decode m_De_readWidth.2.1 12 = .ok (.invokevirtual 50, 3) := by decide +kernel
theorem d_De_readWidth_15 : decode m_De_readWidth.2.1 15 = .ok (.istore_n 1, 1) := by decide +kernel
theorem d_De_readWidth_16 : decode m_De_readWidth.2.1 16 = .ok (.iload_n 1, 1) := by decide +kernel
theorem d_De_readWidth_17 : decode m_De_readWidth.2.1 17 = .ok (.bipush 9, 2) := by decide +kernel
theorem d_De_readWidth_19 : decode m_De_readWidth.2.1 19 = .ok (.if_icmp .le 5, 3) := by decide +kernel
theorem d_De_readWidth_22 : decode m_De_readWidth.2.1 22 = .ok (.iconst 0, 1) := by decide +kernel
theorem d_De_readWidth_23 : decode m_De_readWidth.2.1 23 = .ok (.ireturn, 1) := by decide +kernel
theorem d_De_readWidth_24 : decode m_De_readWidth.2.1 24 = .ok (.aload_n 0, 1) := by decide +kernel
theorem d_De_readWidth_25 : decode m_De_readWidth.2.1 25 = .ok (.getstatic 60, 3) := by decide +kernel
theorem d_De_readWidth_28 : decode m_De_readWidth.2.1 28 = .ok (.iload_n 1, 1) := by decide +kernel
theorem d_De_readWidth_29 : decode m_De_readWidth.2.1 29 = .ok (.iaload, 1) := by decide +kernel
theorem d_De_readWidth_30 : decode m_De_readWidth.2.1 30 = .ok (.putfield 40, 3) := by decide +kernel
theorem d_De_readWidth_33 : decode m_De_readWidth.2.1 33 = .ok (.iconst 1, 1) := by decide +kernel
theorem d_De_readWidth_34 : decode m_De_readWidth.2.1 34 = .ok (.ireturn, 1) := by decide +kernel
theorem t_De_readWidth_0 {d : Nat} {st : List Value} {a0 : Nat} {o1 : Option Value} {fsb : List Value} {w : qk_W} {nc ns : Nat} {Q : Option Value ⊕ Nat → qk_W → Nat → Nat → Prop}  (hb : wo w a0 9 fsb) (h8 : (st.map fun v => Value.category v).sum ≤ 8) (k : Ev d m_De_isLeft 0 [some (.ref a0), some (.int 4)] [] w nc ns (fun r w1 nc1 ns1 => match r with | .inl v => Ev (d + 1) m_De_readWidth 5 [some (.ref a0), o1] (v.toList ++ st) w1 nc1 ns1 Q | .inr x => Q (.inr x) w1 nc1 ns1)) : Ev (d + 1) m_De_readWidth 0 [some (.ref a0), o1] st w nc ns Q := by
  refine ev_aload_n d_De_readWidth_0 rfl rfl ?_
  refine ev_iconst 4 d_De_readWidth_1 (by decide) ?_
  exact ev_call (M' := m_De_isLeft) (As := [.ref a0, .int 4]) (st := st) d_De_readWidth_2 i_De_isLeft (fun h => absurd h (by decide +kernel)) cw_De_43 rfl rfl ⟨hb.1, 9, _, _, hb.2, rfl, rfl⟩ rfl (Nat.le_of_ble_eq_true rfl) h8 k
theorem t_De_readWidth_5 {d : Nat} {st : List Value} {o0 : Option Value} {o1 : Option Value} {y0 : Int32} {w : qk_W} {nc ns : Nat} {Q : Option Value ⊕ Nat → qk_W → Nat → Nat → Prop}   (kt : ¬ y0 = 0 → Ev d m_De_readWidth 10 [o0, o1] st w nc ns Q) (kf : y0 = 0 → Ev d m_De_readWidth 8 [o0, o1] st w nc ns Q) : Ev d m_De_readWidth 5 [o0, o1] (.int y0 :: st) w nc ns Q := by
  exact ev_if_ne 10 d_De_readWidth_5 (by decide) kt kf
theorem t_De_readWidth_8 {d : Nat} {o0 : Option Value} {o1 : Option Value} {w : qk_W} {nc ns : Nat} {Q : Option Value ⊕ Nat → qk_W → Nat → Nat → Prop}   (hq : Q (.inl (some (.int 0))) w nc ns) : Ev d m_De_readWidth 8 [o0, o1] [] w nc ns Q := by
  refine ev_iconst 0 d_De_readWidth_8 (by decide) ?_
  exact ev_iret d_De_readWidth_9 rfl rfl hq
theorem t_De_readWidth_10 {d : Nat} {st : List Value} {a0 : Nat} {o1 : Option Value} {fsb : List Value} {w : qk_W} {nc ns : Nat} {Q : Option Value ⊕ Nat → qk_W → Nat → Nat → Prop}  (hb : wo w a0 9 fsb) (h8 : (st.map fun v => Value.category v).sum ≤ 8) (k : Ev d m_De_read 0 [some (.ref a0), some (.int 4)] [] w nc ns (fun r w1 nc1 ns1 => match r with | .inl v => Ev (d + 1) m_De_readWidth 15 [some (.ref a0), o1] (v.toList ++ st) w1 nc1 ns1 Q | .inr x => Q (.inr x) w1 nc1 ns1)) : Ev (d + 1) m_De_readWidth 10 [some (.ref a0), o1] st w nc ns Q := by
  refine ev_aload_n d_De_readWidth_10 rfl rfl ?_
  refine ev_iconst 4 d_De_readWidth_11 (by decide) ?_
  exact ev_call (M' := m_De_read) (As := [.ref a0, .int 4]) (st := st) d_De_readWidth_12 i_De_read (fun h => absurd h (by decide +kernel)) cw_De_50 rfl rfl ⟨hb.1, 9, _, _, hb.2, rfl, rfl⟩ rfl (Nat.le_of_ble_eq_true rfl) h8 k
theorem t_De_readWidth_15 {d : Nat} {st : List Value} {o0 : Option Value} {o1 : Option Value} {y0 : Int32} {w : qk_W} {nc ns : Nat} {Q : Option Value ⊕ Nat → qk_W → Nat → Nat → Prop}  (hc1 : qk_c2 [o0, o1] 1 = true) (kt : y0 ≤ (9 : Int32) → Ev d m_De_readWidth 24 [o0, some (.int y0)] st w nc ns Q) (kf : ¬ (y0 ≤ (9 : Int32)) → Ev d m_De_readWidth 22 [o0, some (.int y0)] st w nc ns Q) : Ev d m_De_readWidth 15 [o0, o1] (.int y0 :: st) w nc ns Q := by
  refine ev_istore_n d_De_readWidth_15 (by decide) hc1 ?_
  refine ev_iload_n d_De_readWidth_16 rfl ?_
  refine ev_bipush 9 d_De_readWidth_17 (by decide) ?_
  exact ev_icmp_le 24 d_De_readWidth_19 (by decide) kt kf
theorem t_De_readWidth_22 {d : Nat} {o0 : Option Value} {o1 : Option Value} {w : qk_W} {nc ns : Nat} {Q : Option Value ⊕ Nat → qk_W → Nat → Nat → Prop}   (hq : Q (.inl (some (.int 0))) w nc ns) : Ev d m_De_readWidth 22 [o0, o1] [] w nc ns Q := by
  refine ev_iconst 0 d_De_readWidth_22 (by decide) ?_
  exact ev_iret d_De_readWidth_23 rfl rfl hq
theorem t_De_readWidth_24 {d : Nat} {st : List Value} {a0 : Nat} {x1 : Int32} {n2 : Nat} {f3 : Nat → Int32} {fs6 : List Value} {w : qk_W} {nc ns : Nat} {Q : Option Value ⊕ Nat → qk_W → Nat → Nat → Prop}  (hs1 : w 1 ≠ none) (ha1 : wi w 1 n2 f3) (hi4 : vp_in x1 n2) (hw5 : wo w a0 9 fs6) (hk : 7 < fs6.length) (k : Ev d m_De_readWidth 33 [some (.ref a0), some (.int x1)] st (qk_set w a0 (.inr (9, fs6.set 7 (.int (f3 x1.toNatClampNeg))))) nc ns Q) : Ev d m_De_readWidth 24 [some (.ref a0), some (.int x1)] st w nc ns Q := by
  refine ev_aload_n d_De_readWidth_24 rfl rfl ?_
  refine ev_gets d_De_readWidth_25 fs_De_60 (Or.inl ⟨rfl, rfl⟩) hs1 ?_
  refine ev_iload_n d_De_readWidth_28 rfl ?_
  refine ev_iald d_De_readWidth_29 ha1 hi4 ?_
  exact ev_putf d_De_readWidth_30 fl_De_40 rfl hw5.1 hw5.2 hk (qk_fitI _) k
theorem t_De_readWidth_33 {d : Nat} {o0 : Option Value} {o1 : Option Value} {w : qk_W} {nc ns : Nat} {Q : Option Value ⊕ Nat → qk_W → Nat → Nat → Prop}   (hq : Q (.inl (some (.int 1))) w nc ns) : Ev d m_De_readWidth 33 [o0, o1] [] w nc ns Q := by
  refine ev_iconst 1 d_De_readWidth_33 (by decide) ?_
  exact ev_iret d_De_readWidth_34 rfl rfl hq
/-! De_isLeft -/
theorem fl_De_57 : qk_fl "QuakeLink$Decoder" 57 9 5 := ⟨_, rfl, by decide, rfl, (lw_i3 _ (List.mem_of_getElem? (i := 173) rfl))⟩
theorem d_De_isLeft_0 : decode m_De_isLeft.2.1 0 = .ok (.aload_n 0, 1) := by decide +kernel
theorem d_De_isLeft_1 : decode m_De_isLeft.2.1 1 = .ok (.getfield 57, 3) := by decide +kernel
theorem d_De_isLeft_4 : decode m_De_isLeft.2.1 4 = .ok (.bipush 8, 2) := by decide +kernel
theorem d_De_isLeft_6 : decode m_De_isLeft.2.1 6 = .ok (.aload_n 0, 1) := by decide +kernel
theorem d_De_isLeft_7 : decode m_De_isLeft.2.1 7 = .ok (.getfield 24, 3) := by decide +kernel
theorem d_De_isLeft_10 : decode m_De_isLeft.2.1 10 = .ok (.aload_n 0, 1) := by decide +kernel
theorem d_De_isLeft_11 : decode m_De_isLeft.2.1 11 = .ok (.getfield 9, 3) := by decide +kernel
theorem d_De_isLeft_14 : decode m_De_isLeft.2.1 14 = .ok (.isub, 1) := by decide +kernel
theorem d_De_isLeft_15 : decode m_De_isLeft.2.1 15 = .ok (.imul, 1) := by decide +kernel
theorem d_De_isLeft_16 : decode m_De_isLeft.2.1 16 = .ok (.iadd, 1) := by decide +kernel
theorem d_De_isLeft_17 : decode m_De_isLeft.2.1 17 = .ok (.iload_n 1, 1) := by decide +kernel
theorem d_De_isLeft_18 : decode m_De_isLeft.2.1 18 = .ok (.if_icmp .lt 7, 3) := by decide +kernel
theorem d_De_isLeft_21 : decode m_De_isLeft.2.1 21 = .ok (.iconst 1, 1) := by decide +kernel
theorem d_De_isLeft_22 : decode m_De_isLeft.2.1 22 = .ok (.goto 4, 3) := by decide +kernel
theorem d_De_isLeft_25 : decode m_De_isLeft.2.1 25 = .ok (.iconst 0, 1) := by decide +kernel
theorem d_De_isLeft_26 : decode m_De_isLeft.2.1 26 = .ok (.ireturn, 1) := by decide +kernel
theorem t_De_isLeft_0 {d : Nat} {st : List Value} {a0 : Nat} {x1 : Int32} {fs2 : List Value} {n4 : Int32} {n8 : Int32} {n12 : Int32} {w : qk_W} {nc ns : Nat} {Q : Option Value ⊕ Nat → qk_W → Nat → Nat → Prop}  (hw1 : wo w a0 9 fs2) (hf3 : fs2[5]? = some (.int n4)) (hf7 : fs2[2]? = some (.int n8)) (hf11 : fs2[3]? = some (.int n12)) (kt : (n4 + (8 * (n8 - n12))) < x1 → Ev d m_De_isLeft 25 [some (.ref a0), some (.int x1)] st w nc ns Q) (kf : ¬ ((n4 + (8 * (n8 - n12))) < x1) → Ev d m_De_isLeft 21 [some (.ref a0), some (.int x1)] st w nc ns Q) : Ev d m_De_isLeft 0 [some (.ref a0), some (.int x1)] st w nc ns Q := by
  refine ev_aload_n d_De_isLeft_0 rfl rfl ?_
  refine ev_getf d_De_isLeft_1 fl_De_57 hw1.1 hw1.2 hf3 ?_
  refine ev_bipush 8 d_De_isLeft_4 (by decide) ?_
  refine ev_aload_n d_De_isLeft_6 rfl rfl ?_
  refine ev_getf d_De_isLeft_7 fl_De_24 hw1.1 hw1.2 hf7 ?_
  refine ev_aload_n d_De_isLeft_10 rfl rfl ?_
  refine ev_getf d_De_isLeft_11 fl_De_9 hw1.1 hw1.2 hf11 ?_
  refine ev_isub d_De_isLeft_14 ?_
  refine ev_imul d_De_isLeft_15 ?_
  refine ev_iadd d_De_isLeft_16 ?_
  refine ev_iload_n d_De_isLeft_17 rfl ?_
  exact ev_icmp_lt 25 d_De_isLeft_18 (by decide) kt kf
theorem t_De_isLeft_21 {d : Nat} {o0 : Option Value} {o1 : Option Value} {w : qk_W} {nc ns : Nat} {Q : Option Value ⊕ Nat → qk_W → Nat → Nat → Prop}   (hq : Q (.inl (some (.int 1))) w nc ns) : Ev d m_De_isLeft 21 [o0, o1] [] w nc ns Q := by
  refine ev_iconst 1 d_De_isLeft_21 (by decide) ?_
  refine ev_goto 26 d_De_isLeft_22 (by decide) ?_
  exact ev_iret d_De_isLeft_26 rfl rfl hq
theorem t_De_isLeft_25 {d : Nat} {o0 : Option Value} {o1 : Option Value} {w : qk_W} {nc ns : Nat} {Q : Option Value ⊕ Nat → qk_W → Nat → Nat → Prop}   (hq : Q (.inl (some (.int 0))) w nc ns) : Ev d m_De_isLeft 25 [o0, o1] [] w nc ns Q := by
  refine ev_iconst 0 d_De_isLeft_25 (by decide) ?_
  exact ev_iret d_De_isLeft_26 rfl rfl hq
/-! De_read -/
theorem fl_De_53 : qk_fl "QuakeLink$Decoder" 53 9 4 := ⟨_, rfl, by decide, rfl, (lw_i3 _ (List.mem_of_getElem? (i := 172) rfl))⟩
theorem fl_De_64 : qk_fl "QuakeLink$Decoder" 64 8 0 := ⟨_, rfl, by decide, rfl, (lw_i1 _ (List.mem_of_getElem? (i := 230) rfl))⟩
theorem d_De_read_0 : decode m_De_read.2.1 0 = .ok (.aload_n 0, 1) := by decide +kernel
theorem d_De_read_1 : decode m_De_read.2.1 1 = .ok (.getfield 57, 3) := by decide +kernel
theorem d_De_read_4 : decode m_De_read.2.1 4 = .ok (.iload_n 1, 1) := by decide +kernel
theorem d_De_read_5 : decode m_De_read.2.1 5 = .ok (.if_icmp .ge 67, 3) := by decide +kernel
theorem d_De_read_8 : decode m_De_read.2.1 8 = .ok (.aload_n 0, 1) := by decide +kernel
theorem d_De_read_9 : decode m_De_read.2.1 9 = .ok (.getfield 9, 3) := by decide +kernel
theorem d_De_read_12 : decode m_De_read.2.1 12 = .ok (.aload_n 0, 1) := by decide +kernel
theorem d_De_read_13 : decode m_De_read.2.1 13 = .ok (.getfield 24, 3) := by decide +kernel
theorem d_De_read_16 : decode m_De_read.2.1 16 = .ok (.if_icmp .ge 56, 3) := by decide +kernel
theorem d_De_read_19 : decode m_De_read.2.1 19 = .ok (.aload_n 0, 1) := by decide +kernel
theorem d_De_read_20 : decode m_De_read.2.1 20 = .ok (.aload_n 0, 1) := by decide +kernel
theorem d_De_read_21 : decode m_De_read.2.1 21 = .ok (.getfield 53, 3) := by decide +kernel
theorem d_De_read_24 : decode m_De_read.2.1 24 = .ok (.bipush 8, 2) := by decide +kernel
theorem d_De_read_26 : decode m_De_read.2.1 26 = .ok (.lshl, 1) := by decide +kernel
theorem d_De_read_27 : decode m_De_read.2.1 27 = .ok (.aload_n 0, 1) := by decide +kernel
theorem d_De_read_28 : decode m_De_read.2.1 28 = .ok (.getfield 15, 3) := by decide +kernel
theorem d_De_read_31 : decode m_De_read.2.1 31 = .ok (.getfield 64, 3) := by decide +kernel
theorem d_De_read_34 : decode m_De_read.2.1 34 = .ok (.aload_n 0, 1) := by decide +kernel
theorem d_De_read_35 : decode m_De_read.2.1 35 = .ok (.getfield 9, 3) := by decide +kernel
theorem d_De_read_38 : decode m_De_read.2.1 38 = .ok (.baload, 1) := by decide +kernel
theorem d_De_read_39 : decode m_De_read.2.1 39 = .ok (.sipush 255, 3) := by decide +kernel
theorem d_De_read_42 : decode m_De_read.2.1 42 = .ok (.iand, 1) := by decide +kernel
theorem d_De_read_43 : decode m_De_read.2.1 43 = .ok (.i2l, 1) := by decide +kernel
theorem d_De_read_44 : decode m_De_read.2.1 44 = .ok (.lor, 1) := by decide +kernel
theorem d_De_read_45 : decode m_De_read.2.1 45 = .ok (.putfield 53, 3) := by decide +kernel
theorem d_De_read_48 : decode m_De_read.2.1 48 = .ok (.aload_n 0, 1) := by decide +kernel
theorem d_De_read_49 : decode m_De_read.2.1 49 = .ok (.dup, 1) := by decide +kernel
theorem d_De_read_50 : decode m_De_read.2.1 50 = .ok (.getfield 57, 3) := by decide +kernel
theorem d_De_read_53 : decode m_De_read.2.1 53 = .ok (.bipush 8, 2) := by decide +kernel
theorem d_De_read_55 : decode m_De_read.2.1 55 = .ok (.iadd, 1) := by decide +kernel
theorem d_De_read_56 : decode m_De_read.2.1 56 = .ok (.putfield 57, 3) := by decide +kernel
theorem d_De_read_59 : decode m_De_read.2.1 59 = .ok (.aload_n 0, 1) := by decide +kernel
theorem d_De_read_60 : decode m_De_read.2.1 60 = .ok (.dup, 1) := by decide +kernel
theorem d_De_read_61 : decode m_De_read.2.1 61 = .ok (.getfield 9, 3) := by decide +kernel
theorem d_De_read_64 : decode m_De_read.2.1 64 = .ok (.iconst 1, 1) := by decide +kernel
theorem d_De_read_65 : decode m_De_read.2.1 65 = .ok (.iadd, 1) := by decide +kernel
theorem d_De_read_66 : decode m_De_read.2.1 66 = .ok (.putfield 9, 3) := by decide +kernel
theorem d_De_read_69 : decode m_De_read.2.1 69 = .ok (.goto (-69), 3) := by decide +kernel
theorem d_De_read_72 : decode m_De_read.2.1 72 = .ok (.aload_n 0, 1) := by decide +kernel
theorem d_De_read_73 : decode m_De_read.2.1 73 = .ok (.dup, 1) := by decide +kernel
theorem d_De_read_74 : decode m_De_read.2.1 74 = .ok (.getfield 57, 3) := by decide +kernel
theorem d_De_read_77 : decode m_De_read.2.1 77 = .ok (.iload_n 1, 1) := by decide +kernel
theorem d_De_read_78 : decode m_De_read.2.1 78 = .ok (.isub, 1) := by decide +kernel
theorem d_De_read_79 : decode m_De_read.2.1 79 = .ok (.putfield 57, 3) := by decide +kernel
theorem d_De_read_82 : decode m_De_read.2.1 82 = .ok (.aload_n 0, 1) := by decide +kernel
theorem d_De_read_83 : decode m_De_read.2.1 83 = .ok (.getfield 53, 3) := by decide +kernel
theorem d_De_read_86 : decode m_De_read.2.1 86 = .ok (.aload_n 0, 1) := by decide +kernel
theorem d_De_read_87 : decode m_De_read.2.1 87 = .ok (.getfield 57, 3) := by decide +kernel
theorem d_De_read_90 : decode m_De_read.2.1 90 = .ok (.lushr, 1) := by decide +kernel
theorem d_De_read_91 : decode m_De_read.2.1 91 = .ok (.lconst 1, 1) := by decide +kernel
theorem d_De_read_92 : decode m_De_read.2.1 92 = .ok (.iload_n 1, 1) := by decide +kernel
theorem d_De_read_93 : decode m_De_read.2.1 93 = .ok (.lshl, 1) := by decide +kernel
theorem d_De_read_94 : decode m_De_read.2.1 94 = .ok (.lconst 1, 1) := by decide +kernel
theorem d_De_read_95 : decode m_De_read.2.1 95 = .ok (.lsub, 1) := by decide +kernel
theorem d_De_read_96 : decode m_De_read.2.1 96 = .ok (.land, 1) := by decide +kernel
theorem d_De_read_97 : decode m_De_read.2.1 97 = .ok (.l2i, 1) := by decide +kernel
theorem d_De_read_98 : decode m_De_read.2.1 98 = .ok (.ireturn, 1) := by decide +kernel
theorem t_De_read_0 {d : Nat} {st : List Value} {a0 : Nat} {x1 : Int32} {fs2 : List Value} {n4 : Int32} {w : qk_W} {nc ns : Nat} {Q : Option Value ⊕ Nat → qk_W → Nat → Nat → Prop}  (hw1 : wo w a0 9 fs2) (hf3 : fs2[5]? = some (.int n4)) (kt : x1 ≤ n4 → Ev d m_De_read 72 [some (.ref a0), some (.int x1)] st w nc ns Q) (kf : ¬ (x1 ≤ n4) → Ev d m_De_read 8 [some (.ref a0), some (.int x1)] st w nc ns Q) : Ev d m_De_read 0 [some (.ref a0), some (.int x1)] st w nc ns Q := by
  refine ev_aload_n d_De_read_0 rfl rfl ?_
  refine ev_getf d_De_read_1 fl_De_57 hw1.1 hw1.2 hf3 ?_
  refine ev_iload_n d_De_read_4 rfl ?_
  exact ev_icmp_ge 72 d_De_read_5 (by decide) kt kf
theorem t_De_read_8 {d : Nat} {st : List Value} {a0 : Nat} {o1 : Option Value} {fs2 : List Value} {n4 : Int32} {n8 : Int32} {w : qk_W} {nc ns : Nat} {Q : Option Value ⊕ Nat → qk_W → Nat → Nat → Prop}  (hw1 : wo w a0 9 fs2) (hf3 : fs2[3]? = some (.int n4)) (hf7 : fs2[2]? = some (.int n8)) (kt : n8 ≤ n4 → Ev d m_De_read 72 [some (.ref a0), o1] st w nc ns Q) (kf : ¬ (n8 ≤ n4) → Ev d m_De_read 19 [some (.ref a0), o1] st w nc ns Q) : Ev d m_De_read 8 [some (.ref a0), o1] st w nc ns Q := by
  refine ev_aload_n d_De_read_8 rfl rfl ?_
  refine ev_getf d_De_read_9 fl_De_9 hw1.1 hw1.2 hf3 ?_
  refine ev_aload_n d_De_read_12 rfl rfl ?_
  refine ev_getf d_De_read_13 fl_De_24 hw1.1 hw1.2 hf7 ?_
  exact ev_icmp_ge 72 d_De_read_16 (by decide) kt kf
theorem t_De_read_19 {d : Nat} {st : List Value} {a0 : Nat} {o1 : Option Value} {fs2 : List Value} {n4 : Int64} {c8 : Nat} {fs10 : List Value} {c12 : Nat} {n16 : Int32} {n18 : Nat} {f19 : Nat → Int32} {w : qk_W} {nc ns : Nat} {Q : Option Value ⊕ Nat → qk_W → Nat → Nat → Prop}  (hw1 : wo w a0 9 fs2) (hf3 : fs2[4]? = some (.long n4)) (hf7 : fs2[1]? = some (.ref c8)) (hw9 : wo w c8 8 fs10) (hf11 : fs10[0]? = some (.ref c12)) (hf15 : fs2[3]? = some (.int n16)) (ha17 : wb w c12 n18 f19) (hi20 : vp_in n16 n18) (hk : 4 < fs2.length) (k : Ev d m_De_read 48 [some (.ref a0), o1] st (qk_set w a0 (.inr (9, fs2.set 4 (.long ((ql_shl n4 8) ||| (Int32.toInt64 ((f19 n16.toNatClampNeg) &&& 255))))))) nc ns Q) : Ev d m_De_read 19 [some (.ref a0), o1] st w nc ns Q := by
  refine ev_aload_n d_De_read_19 rfl rfl ?_
  refine ev_aload_n d_De_read_20 rfl rfl ?_
  refine ev_getf d_De_read_21 fl_De_53 hw1.1 hw1.2 hf3 ?_
  refine ev_bipush 8 d_De_read_24 (by decide) ?_
  refine ev_lshl d_De_read_26 ?_
  refine ev_aload_n d_De_read_27 rfl rfl ?_
  refine ev_getf d_De_read_28 fl_De_15 hw1.1 hw1.2 hf7 ?_
  refine ev_getf d_De_read_31 fl_De_64 hw9.1 hw9.2 hf11 ?_
  refine ev_aload_n d_De_read_34 rfl rfl ?_
  refine ev_getf d_De_read_35 fl_De_9 hw1.1 hw1.2 hf15 ?_
  refine ev_bald d_De_read_38 ha17.1 ha17.2 hi20 ?_
  refine ev_sipush 255 d_De_read_39 (by decide) ?_
  refine ev_iand d_De_read_42 ?_
  refine ev_i2l d_De_read_43 ?_
  refine ev_lor d_De_read_44 ?_
  exact ev_putf d_De_read_45 fl_De_53 rfl hw1.1 hw1.2 hk (qk_fitJ _) k
theorem t_De_read_48 {d : Nat} {st : List Value} {a0 : Nat} {o1 : Option Value} {fs2 : List Value} {n4 : Int32} {w : qk_W} {nc ns : Nat} {Q : Option Value ⊕ Nat → qk_W → Nat → Nat → Prop}  (hw1 : wo w a0 9 fs2) (hf3 : fs2[5]? = some (.int n4)) (hk : 5 < fs2.length) (k : Ev d m_De_read 59 [some (.ref a0), o1] st (qk_set w a0 (.inr (9, fs2.set 5 (.int (n4 + 8))))) nc ns Q) : Ev d m_De_read 48 [some (.ref a0), o1] st w nc ns Q := by
  refine ev_aload_n d_De_read_48 rfl rfl ?_
  refine ev_dup d_De_read_49 rfl ?_
  refine ev_getf d_De_read_50 fl_De_57 hw1.1 hw1.2 hf3 ?_
  refine ev_bipush 8 d_De_read_53 (by decide) ?_
  refine ev_iadd d_De_read_55 ?_
  exact ev_putf d_De_read_56 fl_De_57 rfl hw1.1 hw1.2 hk (qk_fitI _) k
theorem t_De_read_59 {d : Nat} {st : List Value} {a0 : Nat} {o1 : Option Value} {fs2 : List Value} {n4 : Int32} {w : qk_W} {nc ns : Nat} {Q : Option Value ⊕ Nat → qk_W → Nat → Nat → Prop}  (hw1 : wo w a0 9 fs2) (hf3 : fs2[3]? = some (.int n4)) (hk : 3 < fs2.length) (k : Ev d m_De_read 69 [some (.ref a0), o1] st (qk_set w a0 (.inr (9, fs2.set 3 (.int (n4 + 1))))) nc ns Q) : Ev d m_De_read 59 [some (.ref a0), o1] st w nc ns Q := by
  refine ev_aload_n d_De_read_59 rfl rfl ?_
  refine ev_dup d_De_read_60 rfl ?_
  refine ev_getf d_De_read_61 fl_De_9 hw1.1 hw1.2 hf3 ?_
  refine ev_iconst 1 d_De_read_64 (by decide) ?_
  refine ev_iadd d_De_read_65 ?_
  exact ev_putf d_De_read_66 fl_De_9 rfl hw1.1 hw1.2 hk (qk_fitI _) k
theorem t_De_read_69 {d : Nat} {st : List Value} {o0 : Option Value} {o1 : Option Value} {w : qk_W} {nc ns : Nat} {Q : Option Value ⊕ Nat → qk_W → Nat → Nat → Prop}   (k : Ev d m_De_read 0 [o0, o1] st w nc ns Q) : Ev d m_De_read 69 [o0, o1] st w nc ns Q := by
  refine ev_goto 0 d_De_read_69 (by decide) ?_
  exact k
theorem t_De_read_72 {d : Nat} {st : List Value} {a0 : Nat} {x1 : Int32} {fs2 : List Value} {n4 : Int32} {w : qk_W} {nc ns : Nat} {Q : Option Value ⊕ Nat → qk_W → Nat → Nat → Prop}  (hw1 : wo w a0 9 fs2) (hf3 : fs2[5]? = some (.int n4)) (hk : 5 < fs2.length) (k : Ev d m_De_read 82 [some (.ref a0), some (.int x1)] st (qk_set w a0 (.inr (9, fs2.set 5 (.int (n4 - x1))))) nc ns Q) : Ev d m_De_read 72 [some (.ref a0), some (.int x1)] st w nc ns Q := by
  refine ev_aload_n d_De_read_72 rfl rfl ?_
  refine ev_dup d_De_read_73 rfl ?_
  refine ev_getf d_De_read_74 fl_De_57 hw1.1 hw1.2 hf3 ?_
  refine ev_iload_n d_De_read_77 rfl ?_
  refine ev_isub d_De_read_78 ?_
  exact ev_putf d_De_read_79 fl_De_57 rfl hw1.1 hw1.2 hk (qk_fitI _) k
theorem t_De_read_82 {d : Nat} {a0 : Nat} {x1 : Int32} {fs2 : List Value} {n4 : Int64} {n8 : Int32} {w : qk_W} {nc ns : Nat} {Q : Option Value ⊕ Nat → qk_W → Nat → Nat → Prop}  (hw1 : wo w a0 9 fs2) (hf3 : fs2[4]? = some (.long n4)) (hf7 : fs2[5]? = some (.int n8)) (hq : Q (.inl (some (.int (Int64.toInt32 ((ql_ushr n4 n8) &&& ((ql_shl 1 x1) - 1)))))) w nc ns) : Ev d m_De_read 82 [some (.ref a0), some (.int x1)] [] w nc ns Q := by
  refine ev_aload_n d_De_read_82 rfl rfl ?_
  refine ev_getf d_De_read_83 fl_De_53 hw1.1 hw1.2 hf3 ?_
  refine ev_aload_n d_De_read_86 rfl rfl ?_
  refine ev_getf d_De_read_87 fl_De_57 hw1.1 hw1.2 hf7 ?_
  refine ev_lushr d_De_read_90 ?_
  refine ev_lconst 1 d_De_read_91 (by decide) ?_
  refine ev_iload_n d_De_read_92 rfl ?_
  refine ev_lshl d_De_read_93 ?_
  refine ev_lconst 1 d_De_read_94 (by decide) ?_
  refine ev_lsub d_De_read_95 ?_
  refine ev_land d_De_read_96 ?_
  refine ev_l2i d_De_read_97 ?_
  exact ev_iret d_De_read_98 rfl rfl hq
/-! De_isAtEnd -/
theorem d_De_isAtEnd_0 : decode m_De_isAtEnd.2.1 0 = .ok (.aload_n 0, 1) := by decide +kernel
theorem d_De_isAtEnd_1 : decode m_De_isAtEnd.2.1 1 = .ok (.getfield 9, 3) := by decide +kernel
theorem d_De_isAtEnd_4 : decode m_De_isAtEnd.2.1 4 = .ok (.aload_n 0, 1) := by decide +kernel
theorem d_De_isAtEnd_5 : decode m_De_isAtEnd.2.1 5 = .ok (.getfield 24, 3) := by decide +kernel
theorem d_De_isAtEnd_8 : decode m_De_isAtEnd.2.1 8 = .ok (.if_icmp .ne 25, 3) := by decide +kernel
theorem d_De_isAtEnd_11 : decode m_De_isAtEnd.2.1 11 = .ok (.aload_n 0, 1) := by decide +kernel
theorem d_De_isAtEnd_12 : decode m_De_isAtEnd.2.1 12 = .ok (.getfield 53, 3) := by decide +kernel
theorem d_De_isAtEnd_15 : decode m_De_isAtEnd.2.1 15 = .ok (.lconst 1, 1) := by decide +kernel
theorem d_De_isAtEnd_16 : decode m_De_isAtEnd.2.1 16 = .ok (.aload_n 0, 1) := by decide +kernel
theorem d_De_isAtEnd_17 : decode m_De_isAtEnd.2.1 17 = .ok (.getfield 57, 3) := by decide +kernel
theorem d_De_isAtEnd_20 : decode m_De_isAtEnd.2.1 20 = .ok (.lshl, 1) := by decide +kernel
theorem d_De_isAtEnd_21 : decode m_De_isAtEnd.2.1 21 = .ok (.lconst 1, 1) := by decide +kernel
theorem d_De_isAtEnd_22 : decode m_De_isAtEnd.2.1 22 = .ok (.lsub, 1) := by decide +kernel
theorem d_De_isAtEnd_23 : decode m_De_isAtEnd.2.1 23 = .ok (.land, 1) := by decide +kernel
theorem d_De_isAtEnd_24 : decode m_De_isAtEnd.2.1 24 = .ok (.lconst 0, 1) := by decide +kernel
theorem d_De_isAtEnd_25 : decode m_De_isAtEnd.2.1 25 = .ok (.lcmp, 1) := by decide +kernel
theorem d_De_isAtEnd_26 : decode m_De_isAtEnd.2.1 26 = .ok (.ifCond .ne 7, 3) := by decide +kernel
theorem d_De_isAtEnd_29 : decode m_De_isAtEnd.2.1 29 = .ok (.iconst 1, 1) := by decide +kernel
theorem d_De_isAtEnd_30 : decode m_De_isAtEnd.2.1 30 = .ok (.goto 4, 3) := by decide +kernel
theorem d_De_isAtEnd_33 : decode m_De_isAtEnd.2.1 33 = .ok (.iconst 0, 1) := by decide +kernel
theorem d_De_isAtEnd_34 : decode m_De_isAtEnd.2.1 34 = .ok (.ireturn, 1) := by decide +kernel
theorem t_De_isAtEnd_0 {d : Nat} {st : List Value} {a0 : Nat} {fs2 : List Value} {n4 : Int32} {n8 : Int32} {w : qk_W} {nc ns : Nat} {Q : Option Value ⊕ Nat → qk_W → Nat → Nat → Prop}  (hw1 : wo w a0 9 fs2) (hf3 : fs2[3]? = some (.int n4)) (hf7 : fs2[2]? = some (.int n8)) (kt : ¬ n4 = n8 → Ev d m_De_isAtEnd 33 [some (.ref a0)] st w nc ns Q) (kf : n4 = n8 → Ev d m_De_isAtEnd 11 [some (.ref a0)] st w nc ns Q) : Ev d m_De_isAtEnd 0 [some (.ref a0)] st w nc ns Q := by
  refine ev_aload_n d_De_isAtEnd_0 rfl rfl ?_
  refine ev_getf d_De_isAtEnd_1 fl_De_9 hw1.1 hw1.2 hf3 ?_
  refine ev_aload_n d_De_isAtEnd_4 rfl rfl ?_
  refine ev_getf d_De_isAtEnd_5 fl_De_24 hw1.1 hw1.2 hf7 ?_
  exact ev_icmp_ne 33 d_De_isAtEnd_8 (by decide) kt kf
theorem t_De_isAtEnd_11 {d : Nat} {st : List Value} {a0 : Nat} {fs2 : List Value} {n4 : Int64} {n8 : Int32} {w : qk_W} {nc ns : Nat} {Q : Option Value ⊕ Nat → qk_W → Nat → Nat → Prop}  (hw1 : wo w a0 9 fs2) (hf3 : fs2[4]? = some (.long n4)) (hf7 : fs2[5]? = some (.int n8)) (kt : ¬ (lg_cmp (n4 &&& ((ql_shl 1 n8) - 1)) 0) = 0 → Ev d m_De_isAtEnd 33 [some (.ref a0)] st w nc ns Q) (kf : (lg_cmp (n4 &&& ((ql_shl 1 n8) - 1)) 0) = 0 → Ev d m_De_isAtEnd 29 [some (.ref a0)] st w nc ns Q) : Ev d m_De_isAtEnd 11 [some (.ref a0)] st w nc ns Q := by
  refine ev_aload_n d_De_isAtEnd_11 rfl rfl ?_
  refine ev_getf d_De_isAtEnd_12 fl_De_53 hw1.1 hw1.2 hf3 ?_
  refine ev_lconst 1 d_De_isAtEnd_15 (by decide) ?_
  refine ev_aload_n d_De_isAtEnd_16 rfl rfl ?_
  refine ev_getf d_De_isAtEnd_17 fl_De_57 hw1.1 hw1.2 hf7 ?_
  refine ev_lshl d_De_isAtEnd_20 ?_
  refine ev_lconst 1 d_De_isAtEnd_21 (by decide) ?_
  refine ev_lsub d_De_isAtEnd_22 ?_
  refine ev_land d_De_isAtEnd_23 ?_
  refine ev_lconst 0 d_De_isAtEnd_24 (by decide) ?_
  refine ev_lcmp d_De_isAtEnd_25 ?_
  exact ev_if_ne 33 d_De_isAtEnd_26 (by decide) kt kf
theorem t_De_isAtEnd_29 {d : Nat} {o0 : Option Value} {w : qk_W} {nc ns : Nat} {Q : Option Value ⊕ Nat → qk_W → Nat → Nat → Prop}   (hq : Q (.inl (some (.int 1))) w nc ns) : Ev d m_De_isAtEnd 29 [o0] [] w nc ns Q := by
  refine ev_iconst 1 d_De_isAtEnd_29 (by decide) ?_
  refine ev_goto 34 d_De_isAtEnd_30 (by decide) ?_
  exact ev_iret d_De_isAtEnd_34 rfl rfl hq
theorem t_De_isAtEnd_33 {d : Nat} {o0 : Option Value} {w : qk_W} {nc ns : Nat} {Q : Option Value ⊕ Nat → qk_W → Nat → Nat → Prop}   (hq : Q (.inl (some (.int 0))) w nc ns) : Ev d m_De_isAtEnd 33 [o0] [] w nc ns Q := by
  refine ev_iconst 0 d_De_isAtEnd_33 (by decide) ?_
  exact ev_iret d_De_isAtEnd_34 rfl rfl hq
/-! Pg_init -/
theorem ob_Pg_3 : Cond.methodLink "QuakeLink$Page" 3 Lib.objectInit ∈ lw_tbl := (lw_i4 _ (List.mem_of_getElem? (i := 3) rfl))
theorem fl_Pg_9 : qk_fl "QuakeLink$Page" 9 10 0 := ⟨_, rfl, by decide, rfl, (lw_i4 _ (List.mem_of_getElem? (i := 4) rfl))⟩
theorem fl_Pg_15 : qk_fl "QuakeLink$Page" 15 10 1 := ⟨_, rfl, by decide, rfl, (lw_i4 _ (List.mem_of_getElem? (i := 6) rfl))⟩
theorem d_Pg_init_0 : decode m_Pg_init.2.1 0 = .ok (.aload_n 0, 1) := by decide +kernel
theorem d_Pg_init_1 : decode m_Pg_init.2.1 1 = .ok (.invokespecial 3, 3) := by decide +kernel
theorem d_Pg_init_4 : decode m_Pg_init.2.1 4 = .ok (.aload_n 0, 1) := by decide +kernel
theorem d_Pg_init_5 : decode m_Pg_init.2.1 5 = .ok (.sipush 1024, 3) := by decide +kernel
theorem d_Pg_init_8 : decode m_Pg_init.2.1 8 = .ok (.newarray .int, 2) := by decide +kernel
theorem d_Pg_init_10 : decode m_Pg_init.2.1 10 = .ok (.putfield 9, 3) := by decide +kernel
theorem d_Pg_init_13 : decode m_Pg_init.2.1 13 = .ok (.aload_n 0, 1) := by decide +kernel
theorem d_Pg_init_14 : decode m_Pg_init.2.1 14 = .ok (.sipush 1024, 3) := by decide +kernel
theorem d_Pg_init_17 : decode m_Pg_init.2.1 17 = .ok (.newarray .byte, 2) := by decide +kernel
theorem d_Pg_init_19 : decode m_Pg_init.2.1 19 = .ok (.putfield 15, 3) := by decide +kernel
theorem d_Pg_init_22 : decode m_Pg_init.2.1 22 = .ok (.return_, 1) := by decide +kernel
theorem t_Pg_init_0 {d : Nat} {st : List Value} {a0 : Nat} {w : qk_W} {nc ns : Nat} {Q : Option Value ⊕ Nat → qk_W → Nat → Nat → Prop}  (h8 : (st.map fun v => Value.category v).sum ≤ 8) (k : Ev (d + 1) m_Pg_init 4 [some (.ref a0)] st w nc ns Q) : Ev (d + 1) m_Pg_init 0 [some (.ref a0)] st w nc ns Q := by
  refine ev_aload_n d_Pg_init_0 rfl rfl ?_
  exact ev_obj d_Pg_init_1 ob_Pg_3 ob_inst ob_code (by omega) h8 k
theorem t_Pg_init_4 {d : Nat} {st : List Value} {v0 : Value} {w : qk_W} {nc ns : Nat} {Q : Option Value ⊕ Nat → qk_W → Nat → Nat → Prop} (hv0 : qk_isr v0 = true) (v : Nat) (hv : 16 ≤ v) (hn : w v = none) (k : Ev d m_Pg_init 10 [some v0] (.ref v :: v0 :: st) (qk_set w v (.inl (.int, (1024, .inl (fun _ => 0))))) (nc + 1) (ns + 1024) Q) : Ev d m_Pg_init 4 [some v0] st w nc ns Q := by
  refine ev_aload_n d_Pg_init_4 rfl hv0 ?_
  refine ev_sipush 1024 d_Pg_init_5 (by decide) ?_
  exact ev_newa v (1024, .inl (fun _ => 0)) d_Pg_init_8 rfl (by decide) (lw_i1 _ (List.mem_of_getElem? (i := 57) rfl)) (fun C h => by cases h) (fun cA => rfl) (fun ρ => rfl) (fun w => trivial) (by decide) (by decide) (by decide) hv hn k
theorem t_Pg_init_10 {d : Nat} {st : List Value} {o0 : Option Value} {s0 : Value} {b1 : Nat} {fs2 : List Value} {w : qk_W} {nc ns : Nat} {Q : Option Value ⊕ Nat → qk_W → Nat → Nat → Prop} (hs0 : qk_isr s0 = true) (hw1 : wo w b1 10 fs2) (hk : 0 < fs2.length) (hz : qk_fit (qk_fty 10 0) s0 = true) (k : Ev d m_Pg_init 13 [o0] st (qk_set w b1 (.inr (10, fs2.set 0 (s0)))) nc ns Q) : Ev d m_Pg_init 10 [o0] (s0 :: .ref b1 :: st) w nc ns Q := by
  exact ev_putF d_Pg_init_10 fl_Pg_9 rfl rfl rfl hw1.1 hw1.2 hk hz k
theorem t_Pg_init_13 {d : Nat} {st : List Value} {v0 : Value} {w : qk_W} {nc ns : Nat} {Q : Option Value ⊕ Nat → qk_W → Nat → Nat → Prop} (hv0 : qk_isr v0 = true) (v : Nat) (hv : 16 ≤ v) (hn : w v = none) (k : Ev d m_Pg_init 19 [some v0] (.ref v :: v0 :: st) (qk_set w v (.inl (.byte, (1024, .inl (fun _ => 0))))) (nc + 1) (ns + 1024) Q) : Ev d m_Pg_init 13 [some v0] st w nc ns Q := by
  refine ev_aload_n d_Pg_init_13 rfl hv0 ?_
  refine ev_sipush 1024 d_Pg_init_14 (by decide) ?_
  exact ev_newa v (1024, .inl (fun _ => 0)) d_Pg_init_17 rfl (by decide) (lw_i2 _ (List.mem_of_getElem? (i := 6) rfl)) (fun C h => by cases h) (fun cA => rfl) (fun ρ => rfl) (fun w => trivial) (by decide) (by decide) (by decide) hv hn k
theorem t_Pg_init_19 {d : Nat} {st : List Value} {o0 : Option Value} {s0 : Value} {b1 : Nat} {fs2 : List Value} {w : qk_W} {nc ns : Nat} {Q : Option Value ⊕ Nat → qk_W → Nat → Nat → Prop} (hs0 : qk_isr s0 = true) (hw1 : wo w b1 10 fs2) (hk : 1 < fs2.length) (hz : qk_fit (qk_fty 10 1) s0 = true) (k : Ev d m_Pg_init 22 [o0] st (qk_set w b1 (.inr (10, fs2.set 1 (s0)))) nc ns Q) : Ev d m_Pg_init 19 [o0] (s0 :: .ref b1 :: st) w nc ns Q := by
  exact ev_putF d_Pg_init_19 fl_Pg_15 rfl rfl rfl hw1.1 hw1.2 hk hz k
theorem t_Pg_init_22 {d : Nat} {o0 : Option Value} {w : qk_W} {nc ns : Nat} {Q : Option Value ⊕ Nat → qk_W → Nat → Nat → Prop}   (hq : Q (.inl none) w nc ns) : Ev d m_Pg_init 22 [o0] [] w nc ns Q := by
  exact ev_vret d_Pg_init_22 rfl hq
