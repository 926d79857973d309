/-! Ns_init -/
theorem ob_Ns_3 : Cond.methodLink "QuakeLink$NumberSet" 3 Lib.objectInit ∈ lw_tbl := (lw_i1 _ (List.mem_of_getElem? (i := 48) rfl))
theorem fl_Ns_9 : qk_fl "QuakeLink$NumberSet" 9 3 0 := ⟨_, rfl, by decide, rfl, (lw_i1 _ (List.mem_of_getElem? (i := 49) rfl))⟩
theorem d_Ns_init_0 : decode m_Ns_init.2.1 0 = .ok (.aload_n 0, 1) := by decide +kernel
theorem d_Ns_init_1 : decode m_Ns_init.2.1 1 = .ok (.invokespecial 3, 3) := by decide +kernel
theorem d_Ns_init_4 : decode m_Ns_init.2.1 4 = .ok (.aload_n 0, 1) := by decide +kernel
theorem d_Ns_init_5 : decode m_Ns_init.2.1 5 = .ok (.sipush 1024, 3) := by decide +kernel
theorem d_Ns_init_8 : decode m_Ns_init.2.1 8 = .ok (.newarray .int, 2) := by decide +kernel
theorem d_Ns_init_10 : decode m_Ns_init.2.1 10 = .ok (.putfield 9, 3) := by decide +kernel
theorem d_Ns_init_13 : decode m_Ns_init.2.1 13 = .ok (.return_, 1) := by decide +kernel
theorem t_Ns_init_0 {d : Nat} {st : List Value} {a0 : Nat} {w : qk_W} {nc ns : Nat} {Q : Option Value ⊕ Nat → qk_W → Nat → Nat → Prop}  (h8 : (st.map fun v => Value.category v).sum ≤ 8) (k : Ev (d + 1) m_Ns_init 4 [some (.ref a0)] st w nc ns Q) : Ev (d + 1) m_Ns_init 0 [some (.ref a0)] st w nc ns Q := by
  refine ev_aload_n d_Ns_init_0 rfl rfl ?_
  exact ev_obj d_Ns_init_1 ob_Ns_3 ob_inst ob_code (by omega) h8 k
theorem t_Ns_init_4 {d : Nat} {st : List Value} {v0 : Value} {w : qk_W} {nc ns : Nat} {Q : Option Value ⊕ Nat → qk_W → Nat → Nat → Prop} (hv0 : qk_isr v0 = true) (v : Nat) (hv : 16 ≤ v) (hn : w v = none) (k : Ev d m_Ns_init 10 [some v0] (.ref v :: v0 :: st) (qk_set w v (.inl (.int, (1024, .inl (fun _ => 0))))) (nc + 1) (ns + 1024) Q) : Ev d m_Ns_init 4 [some v0] st w nc ns Q := by
  refine ev_aload_n d_Ns_init_4 rfl hv0 ?_
  refine ev_sipush 1024 d_Ns_init_5 (by decide) ?_
  exact ev_newa v (1024, .inl (fun _ => 0)) d_Ns_init_8 rfl (by decide) (lw_i1 _ (List.mem_of_getElem? (i := 57) rfl)) (fun C h => by cases h) (fun cA => rfl) (fun ρ => rfl) (fun w => trivial) (by decide) (by decide) (by decide) hv hn k
theorem t_Ns_init_10 {d : Nat} {st : List Value} {o0 : Option Value} {s0 : Value} {b1 : Nat} {fs2 : List Value} {w : qk_W} {nc ns : Nat} {Q : Option Value ⊕ Nat → qk_W → Nat → Nat → Prop} (hs0 : qk_isr s0 = true) (hw1 : wo w b1 3 fs2) (hk : 0 < fs2.length) (hz : qk_fit (qk_fty 3 0) s0 = true) (k : Ev d m_Ns_init 13 [o0] st (qk_set w b1 (.inr (3, fs2.set 0 (s0)))) nc ns Q) : Ev d m_Ns_init 10 [o0] (s0 :: .ref b1 :: st) w nc ns Q := by
  exact ev_putF d_Ns_init_10 fl_Ns_9 rfl rfl rfl hw1.1 hw1.2 hk hz k
theorem t_Ns_init_13 {d : Nat} {o0 : Option Value} {w : qk_W} {nc ns : Nat} {Q : Option Value ⊕ Nat → qk_W → Nat → Nat → Prop}   (hq : Q (.inl none) w nc ns) : Ev d m_Ns_init 13 [o0] [] w nc ns Q := by
  exact ev_vret d_Ns_init_13 rfl hq
/-! Ns_next -/
theorem cw_Ns_26 : qk_cw "QuakeLink$NumberSet" m_Math_max.1 (.invokestatic 26) := ⟨Or.inl (lw_i2 _ (List.mem_of_getElem? (i := 51) rfl)), (lw_i1 _ (List.mem_of_getElem? (i := 204) rfl))⟩
theorem cw_Ns_33 : qk_cw "QuakeLink$NumberSet" m_Int_bitCount.1 (.invokestatic 33) := ⟨Or.inl (lw_i2 _ (List.mem_of_getElem? (i := 52) rfl)), (lw_i2 _ (List.mem_of_getElem? (i := 53) rfl))⟩
theorem lc_Ns_15 : Cond.constant "QuakeLink$NumberSet" 15 (32768) ∈ lw_tbl := (lw_i2 _ (List.mem_of_getElem? (i := 58) rfl))
theorem d_Ns_next_0 : decode m_Ns_next.2.1 0 = .ok (.iload_n 1, 1) := by decide +kernel
theorem d_Ns_next_1 : decode m_Ns_next.2.1 1 = .ok (.iconst 0, 1) := by decide +kernel
theorem d_Ns_next_2 : decode m_Ns_next.2.1 2 = .ok (.invokestatic 26, 3) := by decide +kernel
theorem d_Ns_next_5 : decode m_Ns_next.2.1 5 = .ok (.istore_n 3, 1) := by decide +kernel
theorem d_Ns_next_6 : decode m_Ns_next.2.1 6 = .ok (.iconst (-1), 1) := by decide +kernel
theorem d_Ns_next_7 : decode m_Ns_next.2.1 7 = .ok (.iload_n 3, 1) := by decide +kernel
theorem d_Ns_next_8 : decode m_Ns_next.2.1 8 = .ok (.bipush 31, 2) := by decide +kernel
theorem d_Ns_next_10 : decode m_Ns_next.2.1 10 = .ok (.iand, 1) := by decide +kernel
theorem d_Ns_next_11 : decode m_Ns_next.2.1 11 = .ok (.ishl, 1) := by decide +kernel
theorem d_Ns_next_12 : decode m_Ns_next.2.1 12 = .ok (.istore 4, 2) := by decide +kernel
theorem d_Ns_next_14 : decode m_Ns_next.2.1 14 = .ok (.iload_n 3, 1) := by decide +kernel
theorem d_Ns_next_15 : decode m_Ns_next.2.1 15 = .ok (.iconst 5, 1) := by decide +kernel
theorem d_Ns_next_16 : decode m_Ns_next.2.1 16 = .ok (.ishr, 1) := by decide +kernel
theorem d_Ns_next_17 : decode m_Ns_next.2.1 17 = .ok (.istore 5, 2) := by decide +kernel
theorem d_Ns_next_19 : decode m_Ns_next.2.1 19 = .ok (.iload 5, 2) := by decide +kernel
theorem d_Ns_next_21 : decode m_Ns_next.2.1 21 = .ok (.aload_n 0, 1) := by decide +kernel
theorem d_Ns_next_22 : decode m_Ns_next.2.1 22 = .ok (.getfield 9, 3) := by decide +kernel
theorem d_Ns_next_25 : decode m_Ns_next.2.1 25 = .ok (.arraylength, 1) := by decide +kernel
theorem d_Ns_next_26 : decode m_Ns_next.2.1 26 = .ok (.if_icmp .ge 63, 3) := by decide +kernel
theorem d_Ns_next_29 : decode m_Ns_next.2.1 29 = .ok (.iload_n 2, 1) := by decide +kernel
theorem d_Ns_next_30 : decode m_Ns_next.2.1 30 = .ok (.ifCond .eq 13, 3) := by decide +kernel
theorem d_Ns_next_33 : decode m_Ns_next.2.1 33 = .ok (.aload_n 0, 1) := by decide +kernel
theorem d_Ns_next_34 : decode m_Ns_next.2.1 34 = .ok (.getfield 9, 3) := by decide +kernel
theorem d_Ns_next_37 : decode m_Ns_next.2.1 37 = .ok (.iload 5, 2) := by decide +kernel
theorem d_Ns_next_39 : decode m_Ns_next.2.1 39 = .ok (.iaload, 1) := by decide +kernel
theorem d_Ns_next_40 : decode m_Ns_next.2.1 40 = .ok (.goto 12, 3) := by decide +kernel
theorem d_Ns_next_43 : decode m_Ns_next.2.1 43 = .ok (.aload_n 0, 1) := by decide +kernel
theorem d_Ns_next_44 : decode m_Ns_next.2.1 44 = .ok (.getfield 9, 3) := by decide +kernel
theorem d_Ns_next_47 : decode m_Ns_next.2.1 47 = .ok (.iload 5, 2) := by decide +kernel
theorem d_Ns_next_49 : decode m_Ns_next.2.1 49 = .ok (.iaload, 1) := by decide +kernel
theorem d_Ns_next_50 : decode m_Ns_next.2.1 50 = .ok (.iconst (-1), 1) := by decide +kernel
theorem d_Ns_next_51 : decode m_Ns_next.2.1 51 = .ok (.ixor, 1) := by decide +kernel
theorem d_Ns_next_52 : decode m_Ns_next.2.1 52 = .ok (.iload 4, 2) := by decide +kernel
theorem d_Ns_next_54 : decode m_Ns_next.2.1 54 = .ok (.iand, 1) := by decide +kernel
theorem d_Ns_next_55 : decode m_Ns_next.2.1 55 = .ok (.istore 6, 2) := by decide +kernel
theorem d_Ns_next_57 : decode m_Ns_next.2.1 57 = .ok (.iload 6, 2) := by decide +kernel
theorem d_Ns_next_59 : decode m_Ns_next.2.1 59 = .ok (.ifCond .eq 21, 3) := by decide +kernel
theorem d_Ns_next_62 : decode m_Ns_next.2.1 62 = .ok (.iload 5, 2) := by decide +kernel
theorem d_Ns_next_64 : decode m_Ns_next.2.1 64 = .ok (.bipush 32, 2) := by decide +kernel
theorem d_Ns_next_66 : decode m_Ns_next.2.1 66 = .ok (.imul, 1) := by decide +kernel
theorem d_Ns_next_67 : decode m_Ns_next.2.1 67 = .ok (.iload 6, 2) := by decide +kernel
theorem d_Ns_next_69 : decode m_Ns_next.2.1 69 = .ok (.iload 6, 2) := by decide +kernel
theorem d_Ns_next_71 : decode m_Ns_next.2.1 71 = .ok (.ineg, 1) := by decide +kernel
theorem d_Ns_next_72 : decode m_Ns_next.2.1 72 = .ok (.iand, 1) := by decide +kernel
theorem d_Ns_next_73 : decode m_Ns_next.2.1 73 = .ok (.iconst 1, 1) := by decide +kernel
theorem d_Ns_next_74 : decode m_Ns_next.2.1 74 = .ok (.isub, 1) := by decide +kernel
theorem d_Ns_next_75 : decode m_Ns_next.2.1 75 = .ok (.invokestatic 33, 3) := by decide +kernel
theorem d_Ns_next_78 : decode m_Ns_next.2.1 78 = .ok (.iadd, 1) := by decide +kernel
theorem d_Ns_next_79 : decode m_Ns_next.2.1 79 = .ok (.ireturn, 1) := by decide +kernel
theorem d_Ns_next_80 : decode m_Ns_next.2.1 80 = .ok (.iconst (-1), 1) := by decide +kernel
theorem d_Ns_next_81 : decode m_Ns_next.2.1 81 = .ok (.istore 4, 2) := by decide +kernel
theorem d_Ns_next_83 : decode m_Ns_next.2.1 83 = .ok (.iinc 5 1, 3) := by decide +kernel
theorem d_Ns_next_86 : decode m_Ns_next.2.1 86 = .ok (.goto (-67), 3) := by decide +kernel
theorem d_Ns_next_89 : decode m_Ns_next.2.1 89 = .ok (.ldc 15, 2) := by decide +kernel
theorem d_Ns_next_91 : decode m_Ns_next.2.1 91 = .ok (.ireturn, 1) := by decide +kernel
theorem t_Ns_next_0 {d : Nat} {st : List Value} {o0 : Option Value} {x1 : Int32} {o2 : Option Value} {o3 : Option Value} {o4 : Option Value} {o5 : Option Value} {o6 : Option Value} {w : qk_W} {nc ns : Nat} {Q : Option Value ⊕ Nat → qk_W → Nat → Nat → Prop}  (h8 : (st.map fun v => Value.category v).sum ≤ 8) (k : Ev d m_Math_max 0 [some (.int x1), some (.int 0)] [] w nc ns (fun r w1 nc1 ns1 => match r with | .inl v => Ev (d + 1) m_Ns_next 5 [o0, some (.int x1), o2, o3, o4, o5, o6] (v.toList ++ st) w1 nc1 ns1 Q | .inr x => Q (.inr x) w1 nc1 ns1)) : Ev (d + 1) m_Ns_next 0 [o0, some (.int x1), o2, o3, o4, o5, o6] st w nc ns Q := by
  refine ev_iload_n d_Ns_next_0 rfl ?_
  refine ev_iconst 0 d_Ns_next_1 (by decide) ?_
  exact ev_call (M' := m_Math_max) (As := [.int x1, .int 0]) (st := st) d_Ns_next_2 i_Math_max (fun h => absurd h (by decide +kernel)) cw_Ns_26 rfl rfl trivial rfl (Nat.le_of_ble_eq_true rfl) h8 k
theorem t_Ns_next_5 {d : Nat} {st : List Value} {o0 : Option Value} {o1 : Option Value} {o2 : Option Value} {o3 : Option Value} {o4 : Option Value} {o5 : Option Value} {o6 : Option Value} {y0 : Int32} {w : qk_W} {nc ns : Nat} {Q : Option Value ⊕ Nat → qk_W → Nat → Nat → Prop}  (hc1 : qk_c2 [o0, o1, o2, o3, o4, o5, o6] 3 = true) (k : Ev d m_Ns_next 19 [o0, o1, o2, some (.int y0), some (.int (qi_shl (-1) (y0 &&& 31))), some (.int (qi_shr y0 5)), o6] st w nc ns Q) : Ev d m_Ns_next 5 [o0, o1, o2, o3, o4, o5, o6] (.int y0 :: st) w nc ns Q := by
  refine ev_istore_n d_Ns_next_5 (by decide) hc1 ?_
  refine ev_iconst (-1) d_Ns_next_6 (by decide) ?_
  refine ev_iload_n d_Ns_next_7 rfl ?_
  refine ev_bipush 31 d_Ns_next_8 (by decide) ?_
  refine ev_iand d_Ns_next_10 ?_
  refine ev_ishl d_Ns_next_11 ?_
  refine ev_istore d_Ns_next_12 (by decide) rfl ?_
  refine ev_iload_n d_Ns_next_14 rfl ?_
  refine ev_iconst 5 d_Ns_next_15 (by decide) ?_
  refine ev_ishr d_Ns_next_16 ?_
  refine ev_istore d_Ns_next_17 (by decide) rfl ?_
  exact k
theorem t_Ns_next_19 {d : Nat} {st : List Value} {a0 : Nat} {o1 : Option Value} {o2 : Option Value} {o3 : Option Value} {o4 : Option Value} {x5 : Int32} {o6 : Option Value} {fs2 : List Value} {c4 : Nat} {q6 : vp_A} {n7 : Int32} {w : qk_W} {nc ns : Nat} {Q : Option Value ⊕ Nat → qk_W → Nat → Nat → Prop}  (hw1 : wo w a0 3 fs2) (hf3 : fs2[0]? = some (.ref c4)) (ha5 : w c4 = some (.inl (.int, q6))) (hn8 : Int32.ofNat q6.1 = n7) (kt : n7 ≤ x5 → Ev d m_Ns_next 89 [some (.ref a0), o1, o2, o3, o4, some (.int x5), o6] st w nc ns Q) (kf : ¬ (n7 ≤ x5) → Ev d m_Ns_next 29 [some (.ref a0), o1, o2, o3, o4, some (.int x5), o6] st w nc ns Q) : Ev d m_Ns_next 19 [some (.ref a0), o1, o2, o3, o4, some (.int x5), o6] st w nc ns Q := by
  refine ev_iload d_Ns_next_19 rfl ?_
  refine ev_aload_n d_Ns_next_21 rfl rfl ?_
  refine ev_getf d_Ns_next_22 fl_Ns_9 hw1.1 hw1.2 hf3 ?_
  refine ev_alen d_Ns_next_25 (by decide) ha5 hn8 ?_
  exact ev_icmp_ge 89 d_Ns_next_26 (by decide) kt kf
theorem t_Ns_next_29 {d : Nat} {st : List Value} {o0 : Option Value} {o1 : Option Value} {x2 : Int32} {o3 : Option Value} {o4 : Option Value} {o5 : Option Value} {o6 : Option Value} {w : qk_W} {nc ns : Nat} {Q : Option Value ⊕ Nat → qk_W → Nat → Nat → Prop}   (kt : x2 = 0 → Ev d m_Ns_next 43 [o0, o1, some (.int x2), o3, o4, o5, o6] st w nc ns Q) (kf : ¬ (x2 = 0) → Ev d m_Ns_next 33 [o0, o1, some (.int x2), o3, o4, o5, o6] st w nc ns Q) : Ev d m_Ns_next 29 [o0, o1, some (.int x2), o3, o4, o5, o6] st w nc ns Q := by
  refine ev_iload_n d_Ns_next_29 rfl ?_
  exact ev_if_eq 43 d_Ns_next_30 (by decide) kt kf
theorem t_Ns_next_33 {d : Nat} {st : List Value} {a0 : Nat} {o1 : Option Value} {o2 : Option Value} {o3 : Option Value} {x4 : Int32} {x5 : Int32} {o6 : Option Value} {fs2 : List Value} {c4 : Nat} {n6 : Nat} {f7 : Nat → Int32} {w : qk_W} {nc ns : Nat} {Q : Option Value ⊕ Nat → qk_W → Nat → Nat → Prop}  (hw1 : wo w a0 3 fs2) (hf3 : fs2[0]? = some (.ref c4)) (ha5 : wi w c4 n6 f7) (hi8 : vp_in x5 n6) (kt : ((f7 x5.toNatClampNeg) &&& x4) = 0 → Ev d m_Ns_next 80 [some (.ref a0), o1, o2, o3, some (.int x4), some (.int x5), some (.int ((f7 x5.toNatClampNeg) &&& x4))] st w nc ns Q) (kf : ¬ (((f7 x5.toNatClampNeg) &&& x4) = 0) → Ev d m_Ns_next 62 [some (.ref a0), o1, o2, o3, some (.int x4), some (.int x5), some (.int ((f7 x5.toNatClampNeg) &&& x4))] st w nc ns Q) : Ev d m_Ns_next 33 [some (.ref a0), o1, o2, o3, some (.int x4), some (.int x5), o6] st w nc ns Q := by
  refine ev_aload_n d_Ns_next_33 rfl rfl ?_
  refine ev_getf d_Ns_next_34 fl_Ns_9 hw1.1 hw1.2 hf3 ?_
  refine ev_iload d_Ns_next_37 rfl ?_
  refine ev_iald d_Ns_next_39 ha5 hi8 ?_
  refine ev_goto 52 d_Ns_next_40 (by decide) ?_
  refine ev_iload d_Ns_next_52 rfl ?_
  refine ev_iand d_Ns_next_54 ?_
  refine ev_istore d_Ns_next_55 (by decide) rfl ?_
  refine ev_iload d_Ns_next_57 rfl ?_
  exact ev_if_eq 80 d_Ns_next_59 (by decide) kt kf
theorem t_Ns_next_43 {d : Nat} {st : List Value} {a0 : Nat} {o1 : Option Value} {o2 : Option Value} {o3 : Option Value} {x4 : Int32} {x5 : Int32} {o6 : Option Value} {fs2 : List Value} {c4 : Nat} {n6 : Nat} {f7 : Nat → Int32} {w : qk_W} {nc ns : Nat} {Q : Option Value ⊕ Nat → qk_W → Nat → Nat → Prop}  (hw1 : wo w a0 3 fs2) (hf3 : fs2[0]? = some (.ref c4)) (ha5 : wi w c4 n6 f7) (hi8 : vp_in x5 n6) (kt : (((f7 x5.toNatClampNeg) ^^^ (-1)) &&& x4) = 0 → Ev d m_Ns_next 80 [some (.ref a0), o1, o2, o3, some (.int x4), some (.int x5), some (.int (((f7 x5.toNatClampNeg) ^^^ (-1)) &&& x4))] st w nc ns Q) (kf : ¬ ((((f7 x5.toNatClampNeg) ^^^ (-1)) &&& x4) = 0) → Ev d m_Ns_next 62 [some (.ref a0), o1, o2, o3, some (.int x4), some (.int x5), some (.int (((f7 x5.toNatClampNeg) ^^^ (-1)) &&& x4))] st w nc ns Q) : Ev d m_Ns_next 43 [some (.ref a0), o1, o2, o3, some (.int x4), some (.int x5), o6] st w nc ns Q := by
  refine ev_aload_n d_Ns_next_43 rfl rfl ?_
  refine ev_getf d_Ns_next_44 fl_Ns_9 hw1.1 hw1.2 hf3 ?_
  refine ev_iload d_Ns_next_47 rfl ?_
  refine ev_iald d_Ns_next_49 ha5 hi8 ?_
  refine ev_iconst (-1) d_Ns_next_50 (by decide) ?_
  refine ev_ixor d_Ns_next_51 ?_
  refine ev_iload d_Ns_next_52 rfl ?_
  refine ev_iand d_Ns_next_54 ?_
  refine ev_istore d_Ns_next_55 (by decide) rfl ?_
  refine ev_iload d_Ns_next_57 rfl ?_
  exact ev_if_eq 80 d_Ns_next_59 (by decide) kt kf
theorem t_Ns_next_62 {d : Nat} {st : List Value} {o0 : Option Value} {o1 : Option Value} {o2 : Option Value} {o3 : Option Value} {o4 : Option Value} {x5 : Int32} {x6 : Int32} {w : qk_W} {nc ns : Nat} {Q : Option Value ⊕ Nat → qk_W → Nat → Nat → Prop}  (h8 : ((.int (x5 * 32) :: st).map fun v => Value.category v).sum ≤ 8) (k : Ev d m_Int_bitCount 0 [some (.int ((x6 &&& (-x6)) - 1))] [] w nc ns (fun r w1 nc1 ns1 => match r with | .inl v => Ev (d + 1) m_Ns_next 78 [o0, o1, o2, o3, o4, some (.int x5), some (.int x6)] (v.toList ++ (.int (x5 * 32) :: st)) w1 nc1 ns1 Q | .inr x => Q (.inr x) w1 nc1 ns1)) : Ev (d + 1) m_Ns_next 62 [o0, o1, o2, o3, o4, some (.int x5), some (.int x6)] st w nc ns Q := by
  refine ev_iload d_Ns_next_62 rfl ?_
  refine ev_bipush 32 d_Ns_next_64 (by decide) ?_
  refine ev_imul d_Ns_next_66 ?_
  refine ev_iload d_Ns_next_67 rfl ?_
  refine ev_iload d_Ns_next_69 rfl ?_
  refine ev_ineg d_Ns_next_71 ?_
  refine ev_iand d_Ns_next_72 ?_
  refine ev_iconst 1 d_Ns_next_73 (by decide) ?_
  refine ev_isub d_Ns_next_74 ?_
  exact ev_call (M' := m_Int_bitCount) (As := [.int ((x6 &&& (-x6)) - 1)]) (st := (.int (x5 * 32) :: st)) d_Ns_next_75 i_Int_bitCount (fun h => absurd h (by decide +kernel)) cw_Ns_33 rfl rfl trivial rfl (Nat.le_of_ble_eq_true rfl) h8 k
theorem t_Ns_next_78 {d : Nat} {o0 : Option Value} {o1 : Option Value} {o2 : Option Value} {o3 : Option Value} {o4 : Option Value} {o5 : Option Value} {o6 : Option Value} {y0 : Int32} {y1 : Int32} {w : qk_W} {nc ns : Nat} {Q : Option Value ⊕ Nat → qk_W → Nat → Nat → Prop}   (hq : Q (.inl (some (.int (y1 + y0)))) w nc ns) : Ev d m_Ns_next 78 [o0, o1, o2, o3, o4, o5, o6] [.int y0, .int y1] w nc ns Q := by
  refine ev_iadd d_Ns_next_78 ?_
  exact ev_iret d_Ns_next_79 rfl rfl hq
theorem t_Ns_next_80 {d : Nat} {st : List Value} {o0 : Option Value} {o1 : Option Value} {o2 : Option Value} {o3 : Option Value} {o4 : Option Value} {x5 : Int32} {o6 : Option Value} {w : qk_W} {nc ns : Nat} {Q : Option Value ⊕ Nat → qk_W → Nat → Nat → Prop}  (hc1 : qk_c2 [o0, o1, o2, o3, o4, some (.int x5), o6] 4 = true) (k : Ev d m_Ns_next 19 [o0, o1, o2, o3, some (.int (-1)), some (.int (x5 + 1)), o6] st w nc ns Q) : Ev d m_Ns_next 80 [o0, o1, o2, o3, o4, some (.int x5), o6] st w nc ns Q := by
  refine ev_iconst (-1) d_Ns_next_80 (by decide) ?_
  refine ev_istore d_Ns_next_81 (by decide) hc1 ?_
  refine ev_iinc 1 d_Ns_next_83 (by decide) rfl (by decide) rfl ?_
  refine ev_goto 19 d_Ns_next_86 (by decide) ?_
  exact k
theorem t_Ns_next_89 {d : Nat} {o0 : Option Value} {o1 : Option Value} {o2 : Option Value} {o3 : Option Value} {o4 : Option Value} {o5 : Option Value} {o6 : Option Value} {w : qk_W} {nc ns : Nat} {Q : Option Value ⊕ Nat → qk_W → Nat → Nat → Prop}   (hq : Q (.inl (some (.int 32768))) w nc ns) : Ev d m_Ns_next 89 [o0, o1, o2, o3, o4, o5, o6] [] w nc ns Q := by
  refine ev_ldc 32768 d_Ns_next_89 lc_Ns_15 ?_
  exact ev_iret d_Ns_next_91 rfl rfl hq
/-! Ns_exclude -/
theorem cw_Ns_20 : qk_cw "QuakeLink$NumberSet" m_Math_min_III.1 (.invokestatic 20) := ⟨Or.inl (lw_i2 _ (List.mem_of_getElem? (i := 112) rfl)), (lw_i1 _ (List.mem_of_getElem? (i := 201) rfl))⟩
theorem cw_Ns_29 : qk_cw "QuakeLink$NumberSet" m_Ns_bitsOfWord.1 (.invokestatic 29) := ⟨Or.inl (lw_i2 _ (List.mem_of_getElem? (i := 113) rfl)), (lw_i2 _ (List.mem_of_getElem? (i := 114) rfl))⟩
theorem fl_Ns_16 : qk_fl "QuakeLink$NumberSet" 16 3 1 := ⟨_, rfl, by decide, rfl, (lw_i1 _ (List.mem_of_getElem? (i := 50) rfl))⟩
theorem d_Ns_exclude_0 : decode m_Ns_exclude.2.1 0 = .ok (.iload_n 2, 1) := by decide +kernel
theorem d_Ns_exclude_1 : decode m_Ns_exclude.2.1 1 = .ok (.sipush 32767, 3) := by decide +kernel
theorem d_Ns_exclude_4 : decode m_Ns_exclude.2.1 4 = .ok (.invokestatic 20, 3) := by decide +kernel
theorem d_Ns_exclude_7 : decode m_Ns_exclude.2.1 7 = .ok (.istore_n 3, 1) := by decide +kernel
theorem d_Ns_exclude_8 : decode m_Ns_exclude.2.1 8 = .ok (.iload_n 1, 1) := by decide +kernel
theorem d_Ns_exclude_9 : decode m_Ns_exclude.2.1 9 = .ok (.iconst 0, 1) := by decide +kernel
theorem d_Ns_exclude_10 : decode m_Ns_exclude.2.1 10 = .ok (.invokestatic 26, 3) := by decide +kernel
theorem d_Ns_exclude_13 : decode m_Ns_exclude.2.1 13 = .ok (.istore 4, 2) := by decide +kernel
theorem d_Ns_exclude_15 : decode m_Ns_exclude.2.1 15 = .ok (.iload 4, 2) := by decide +kernel
theorem d_Ns_exclude_17 : decode m_Ns_exclude.2.1 17 = .ok (.iconst 5, 1) := by decide +kernel
theorem d_Ns_exclude_18 : decode m_Ns_exclude.2.1 18 = .ok (.ishr, 1) := by decide +kernel
theorem d_Ns_exclude_19 : decode m_Ns_exclude.2.1 19 = .ok (.istore 5, 2) := by decide +kernel
theorem d_Ns_exclude_21 : decode m_Ns_exclude.2.1 21 = .ok (.iload 5, 2) := by decide +kernel
theorem d_Ns_exclude_23 : decode m_Ns_exclude.2.1 23 = .ok (.iload_n 3, 1) := by decide +kernel
theorem d_Ns_exclude_24 : decode m_Ns_exclude.2.1 24 = .ok (.iconst 5, 1) := by decide +kernel
theorem d_Ns_exclude_25 : decode m_Ns_exclude.2.1 25 = .ok (.ishr, 1) := by decide +kernel
theorem d_Ns_exclude_26 : decode m_Ns_exclude.2.1 26 = .ok (.if_icmp .gt 55, 3) := by decide +kernel
theorem d_Ns_exclude_29 : decode m_Ns_exclude.2.1 29 = .ok (.iload 5, 2) := by decide +kernel
theorem d_Ns_exclude_31 : decode m_Ns_exclude.2.1 31 = .ok (.iload 4, 2) := by decide +kernel
theorem d_Ns_exclude_33 : decode m_Ns_exclude.2.1 33 = .ok (.iload_n 3, 1) := by decide +kernel
theorem d_Ns_exclude_34 : decode m_Ns_exclude.2.1 34 = .ok (.invokestatic 29, 3) := by decide +kernel
theorem d_Ns_exclude_37 : decode m_Ns_exclude.2.1 37 = .ok (.aload_n 0, 1) := by decide +kernel
theorem d_Ns_exclude_38 : decode m_Ns_exclude.2.1 38 = .ok (.getfield 9, 3) := by decide +kernel
theorem d_Ns_exclude_41 : decode m_Ns_exclude.2.1 41 = .ok (.iload 5, 2) := by decide +kernel
theorem d_Ns_exclude_43 : decode m_Ns_exclude.2.1 43 = .ok (.iaload, 1) := by decide +kernel
theorem d_Ns_exclude_44 : decode m_Ns_exclude.2.1 44 = .ok (.iand, 1) := by decide +kernel
theorem d_Ns_exclude_45 : decode m_Ns_exclude.2.1 45 = .ok (.istore 6, 2) := by decide +kernel
theorem d_Ns_exclude_47 : decode m_Ns_exclude.2.1 47 = .ok (.aload_n 0, 1) := by decide +kernel
theorem d_Ns_exclude_48 : decode m_Ns_exclude.2.1 48 = .ok (.getfield 9, 3) := by decide +kernel
theorem d_Ns_exclude_51 : decode m_Ns_exclude.2.1 51 = .ok (.iload 5, 2) := by decide +kernel
theorem d_Ns_exclude_53 : decode m_Ns_exclude.2.1 53 = .ok (.dup2, 1) := by decide +kernel
theorem d_Ns_exclude_54 : decode m_Ns_exclude.2.1 54 = .ok (.iaload, 1) := by decide +kernel
theorem d_Ns_exclude_55 : decode m_Ns_exclude.2.1 55 = .ok (.iload 6, 2) := by decide +kernel
theorem d_Ns_exclude_57 : decode m_Ns_exclude.2.1 57 = .ok (.iconst (-1), 1) := by decide +kernel
theorem d_Ns_exclude_58 : decode m_Ns_exclude.2.1 58 = .ok (.ixor, 1) := by decide +kernel
theorem d_Ns_exclude_59 : decode m_Ns_exclude.2.1 59 = .ok (.iand, 1) := by decide +kernel
theorem d_Ns_exclude_60 : decode m_Ns_exclude.2.1 60 = .ok (.iastore, 1) := by decide +kernel
theorem d_Ns_exclude_61 : decode m_Ns_exclude.2.1 61 = .ok (.aload_n 0, 1) := by decide +kernel
theorem d_Ns_exclude_62 : decode m_Ns_exclude.2.1 62 = .ok (.dup, 1) := by decide +kernel
theorem d_Ns_exclude_63 : decode m_Ns_exclude.2.1 63 = .ok (.getfield 16, 3) := by decide +kernel
theorem d_Ns_exclude_66 : decode m_Ns_exclude.2.1 66 = .ok (.iload 6, 2) := by decide +kernel
theorem d_Ns_exclude_68 : decode m_Ns_exclude.2.1 68 = .ok (.invokestatic 33, 3) := by decide +kernel
theorem d_Ns_exclude_71 : decode m_Ns_exclude.2.1 71 = .ok (.isub, 1) := by decide +kernel
theorem d_Ns_exclude_72 : decode m_Ns_exclude.2.1 72 = .ok (.putfield 16, 3) := by decide +kernel
theorem d_Ns_exclude_75 : decode m_Ns_exclude.2.1 75 = .ok (.iinc 5 1, 3) := by decide +kernel
theorem d_Ns_exclude_78 : decode m_Ns_exclude.2.1 78 = .ok (.goto (-57), 3) := by decide +kernel
theorem d_Ns_exclude_81 : decode m_Ns_exclude.2.1 81 = .ok (.return_, 1) := by decide +kernel
theorem t_Ns_exclude_0 {d : Nat} {st : List Value} {o0 : Option Value} {o1 : Option Value} {x2 : Int32} {o3 : Option Value} {o4 : Option Value} {o5 : Option Value} {o6 : Option Value} {w : qk_W} {nc ns : Nat} {Q : Option Value ⊕ Nat → qk_W → Nat → Nat → Prop}  (h8 : (st.map fun v => Value.category v).sum ≤ 8) (k : Ev d m_Math_min_III 0 [some (.int x2), some (.int 32767)] [] w nc ns (fun r w1 nc1 ns1 => match r with | .inl v => Ev (d + 1) m_Ns_exclude 7 [o0, o1, some (.int x2), o3, o4, o5, o6] (v.toList ++ st) w1 nc1 ns1 Q | .inr x => Q (.inr x) w1 nc1 ns1)) : Ev (d + 1) m_Ns_exclude 0 [o0, o1, some (.int x2), o3, o4, o5, o6] st w nc ns Q := by
  refine ev_iload_n d_Ns_exclude_0 rfl ?_
  refine ev_sipush 32767 d_Ns_exclude_1 (by decide) ?_
  exact ev_call (M' := m_Math_min_III) (As := [.int x2, .int 32767]) (st := st) d_Ns_exclude_4 i_Math_min_III (fun h => absurd h (by decide +kernel)) cw_Ns_20 rfl rfl trivial rfl (Nat.le_of_ble_eq_true rfl) h8 k
theorem t_Ns_exclude_7 {d : Nat} {st : List Value} {o0 : Option Value} {x1 : Int32} {o2 : Option Value} {o3 : Option Value} {o4 : Option Value} {o5 : Option Value} {o6 : Option Value} {y0 : Int32} {w : qk_W} {nc ns : Nat} {Q : Option Value ⊕ Nat → qk_W → Nat → Nat → Prop}  (hc1 : qk_c2 [o0, some (.int x1), o2, o3, o4, o5, o6] 3 = true) (h8 : (st.map fun v => Value.category v).sum ≤ 8) (k : Ev d m_Math_max 0 [some (.int x1), some (.int 0)] [] w nc ns (fun r w1 nc1 ns1 => match r with | .inl v => Ev (d + 1) m_Ns_exclude 13 [o0, some (.int x1), o2, some (.int y0), o4, o5, o6] (v.toList ++ st) w1 nc1 ns1 Q | .inr x => Q (.inr x) w1 nc1 ns1)) : Ev (d + 1) m_Ns_exclude 7 [o0, some (.int x1), o2, o3, o4, o5, o6] (.int y0 :: st) w nc ns Q := by
  refine ev_istore_n d_Ns_exclude_7 (by decide) hc1 ?_
  refine ev_iload_n d_Ns_exclude_8 rfl ?_
  refine ev_iconst 0 d_Ns_exclude_9 (by decide) ?_
  exact ev_call (M' := m_Math_max) (As := [.int x1, .int 0]) (st := st) d_Ns_exclude_10 i_Math_max (fun h => absurd h (by decide +kernel)) cw_Ns_26 rfl rfl trivial rfl (Nat.le_of_ble_eq_true rfl) h8 k
theorem t_Ns_exclude_13 {d : Nat} {st : List Value} {o0 : Option Value} {o1 : Option Value} {o2 : Option Value} {o3 : Option Value} {o4 : Option Value} {o5 : Option Value} {o6 : Option Value} {y0 : Int32} {w : qk_W} {nc ns : Nat} {Q : Option Value ⊕ Nat → qk_W → Nat → Nat → Prop}  (hc1 : qk_c2 [o0, o1, o2, o3, o4, o5, o6] 4 = true) (k : Ev d m_Ns_exclude 21 [o0, o1, o2, o3, some (.int y0), some (.int (qi_shr y0 5)), o6] st w nc ns Q) : Ev d m_Ns_exclude 13 [o0, o1, o2, o3, o4, o5, o6] (.int y0 :: st) w nc ns Q := by
  refine ev_istore d_Ns_exclude_13 (by decide) hc1 ?_
  refine ev_iload d_Ns_exclude_15 rfl ?_
  refine ev_iconst 5 d_Ns_exclude_17 (by decide) ?_
  refine ev_ishr d_Ns_exclude_18 ?_
  refine ev_istore d_Ns_exclude_19 (by decide) rfl ?_
  exact k
theorem t_Ns_exclude_21 {d : Nat} {st : List Value} {o0 : Option Value} {o1 : Option Value} {o2 : Option Value} {x3 : Int32} {o4 : Option Value} {x5 : Int32} {o6 : Option Value} {w : qk_W} {nc ns : Nat} {Q : Option Value ⊕ Nat → qk_W → Nat → Nat → Prop}   (kt : (qi_shr x3 5) < x5 → Ev d m_Ns_exclude 81 [o0, o1, o2, some (.int x3), o4, some (.int x5), o6] st w nc ns Q) (kf : ¬ ((qi_shr x3 5) < x5) → Ev d m_Ns_exclude 29 [o0, o1, o2, some (.int x3), o4, some (.int x5), o6] st w nc ns Q) : Ev d m_Ns_exclude 21 [o0, o1, o2, some (.int x3), o4, some (.int x5), o6] st w nc ns Q := by
  refine ev_iload d_Ns_exclude_21 rfl ?_
  refine ev_iload_n d_Ns_exclude_23 rfl ?_
  refine ev_iconst 5 d_Ns_exclude_24 (by decide) ?_
  refine ev_ishr d_Ns_exclude_25 ?_
  exact ev_icmp_gt 81 d_Ns_exclude_26 (by decide) kt kf
theorem t_Ns_exclude_29 {d : Nat} {st : List Value} {o0 : Option Value} {o1 : Option Value} {o2 : Option Value} {x3 : Int32} {x4 : Int32} {x5 : Int32} {o6 : Option Value} {w : qk_W} {nc ns : Nat} {Q : Option Value ⊕ Nat → qk_W → Nat → Nat → Prop}  (h8 : (st.map fun v => Value.category v).sum ≤ 8) (k : Ev d m_Ns_bitsOfWord 0 [some (.int x5), some (.int x4), some (.int x3), none, none] [] w nc ns (fun r w1 nc1 ns1 => match r with | .inl v => Ev (d + 1) m_Ns_exclude 37 [o0, o1, o2, some (.int x3), some (.int x4), some (.int x5), o6] (v.toList ++ st) w1 nc1 ns1 Q | .inr x => Q (.inr x) w1 nc1 ns1)) : Ev (d + 1) m_Ns_exclude 29 [o0, o1, o2, some (.int x3), some (.int x4), some (.int x5), o6] st w nc ns Q := by
  refine ev_iload d_Ns_exclude_29 rfl ?_
  refine ev_iload d_Ns_exclude_31 rfl ?_
  refine ev_iload_n d_Ns_exclude_33 rfl ?_
  exact ev_call (M' := m_Ns_bitsOfWord) (As := [.int x5, .int x4, .int x3]) (st := st) d_Ns_exclude_34 i_Ns_bitsOfWord (fun h => absurd h (by decide +kernel)) cw_Ns_29 rfl rfl trivial rfl (Nat.le_of_ble_eq_true rfl) h8 k
theorem t_Ns_exclude_37 {d : Nat} {st : List Value} {a0 : Nat} {o1 : Option Value} {o2 : Option Value} {o3 : Option Value} {o4 : Option Value} {x5 : Int32} {o6 : Option Value} {y0 : Int32} {fs2 : List Value} {c4 : Nat} {n6 : Nat} {f7 : Nat → Int32} {w : qk_W} {nc ns : Nat} {Q : Option Value ⊕ Nat → qk_W → Nat → Nat → Prop}  (hw1 : wo w a0 3 fs2) (hf3 : fs2[0]? = some (.ref c4)) (ha5 : wi w c4 n6 f7) (hi8 : vp_in x5 n6) (h16 : 16 ≤ c4) (k : Ev d m_Ns_exclude 61 [some (.ref a0), o1, o2, o3, o4, some (.int x5), some (.int (y0 &&& (f7 x5.toNatClampNeg)))] st (qk_set w c4 (.inl (.int, n6, .inl (upd f7 x5.toNatClampNeg ((f7 x5.toNatClampNeg) &&& ((y0 &&& (f7 x5.toNatClampNeg)) ^^^ (-1))))))) nc ns Q) : Ev d m_Ns_exclude 37 [some (.ref a0), o1, o2, o3, o4, some (.int x5), o6] (.int y0 :: st) w nc ns Q := by
  refine ev_aload_n d_Ns_exclude_37 rfl rfl ?_
  refine ev_getf d_Ns_exclude_38 fl_Ns_9 hw1.1 hw1.2 hf3 ?_
  refine ev_iload d_Ns_exclude_41 rfl ?_
  refine ev_iald d_Ns_exclude_43 ha5 hi8 ?_
  refine ev_iand d_Ns_exclude_44 ?_
  refine ev_istore d_Ns_exclude_45 (by decide) rfl ?_
  refine ev_aload_n d_Ns_exclude_47 rfl rfl ?_
  refine ev_getf d_Ns_exclude_48 fl_Ns_9 hw1.1 hw1.2 hf3 ?_
  refine ev_iload d_Ns_exclude_51 rfl ?_
  refine ev_dup2 d_Ns_exclude_53 rfl rfl ?_
  refine ev_iald d_Ns_exclude_54 ha5 hi8 ?_
  refine ev_iload d_Ns_exclude_55 rfl ?_
  refine ev_iconst (-1) d_Ns_exclude_57 (by decide) ?_
  refine ev_ixor d_Ns_exclude_58 ?_
  refine ev_iand d_Ns_exclude_59 ?_
  exact ev_iast d_Ns_exclude_60 h16 ha5 hi8 k
theorem t_Ns_exclude_61 {d : Nat} {st : List Value} {a0 : Nat} {o1 : Option Value} {o2 : Option Value} {o3 : Option Value} {o4 : Option Value} {o5 : Option Value} {x6 : Int32} {fs2 : List Value} {n4 : Int32} {w : qk_W} {nc ns : Nat} {Q : Option Value ⊕ Nat → qk_W → Nat → Nat → Prop}  (hw1 : wo w a0 3 fs2) (hf3 : fs2[1]? = some (.int n4)) (h8 : ((.int n4 :: .ref a0 :: st).map fun v => Value.category v).sum ≤ 8) (k : Ev d m_Int_bitCount 0 [some (.int x6)] [] w nc ns (fun r w1 nc1 ns1 => match r with | .inl v => Ev (d + 1) m_Ns_exclude 71 [some (.ref a0), o1, o2, o3, o4, o5, some (.int x6)] (v.toList ++ (.int n4 :: .ref a0 :: st)) w1 nc1 ns1 Q | .inr x => Q (.inr x) w1 nc1 ns1)) : Ev (d + 1) m_Ns_exclude 61 [some (.ref a0), o1, o2, o3, o4, o5, some (.int x6)] st w nc ns Q := by
  refine ev_aload_n d_Ns_exclude_61 rfl rfl ?_
  refine ev_dup d_Ns_exclude_62 rfl ?_
  refine ev_getf d_Ns_exclude_63 fl_Ns_16 hw1.1 hw1.2 hf3 ?_
  refine ev_iload d_Ns_exclude_66 rfl ?_
  exact ev_call (M' := m_Int_bitCount) (As := [.int x6]) (st := (.int n4 :: .ref a0 :: st)) d_Ns_exclude_68 i_Int_bitCount (fun h => absurd h (by decide +kernel)) cw_Ns_33 rfl rfl trivial rfl (Nat.le_of_ble_eq_true rfl) h8 k
theorem t_Ns_exclude_71 {d : Nat} {st : List Value} {o0 : Option Value} {o1 : Option Value} {o2 : Option Value} {o3 : Option Value} {o4 : Option Value} {o5 : Option Value} {o6 : Option Value} {y0 : Int32} {y1 : Int32} {b2 : Nat} {fs2 : List Value} {w : qk_W} {nc ns : Nat} {Q : Option Value ⊕ Nat → qk_W → Nat → Nat → Prop}  (hw1 : wo w b2 3 fs2) (hk : 1 < fs2.length) (k : Ev d m_Ns_exclude 75 [o0, o1, o2, o3, o4, o5, o6] st (qk_set w b2 (.inr (3, fs2.set 1 (.int (y1 - y0))))) nc ns Q) : Ev d m_Ns_exclude 71 [o0, o1, o2, o3, o4, o5, o6] (.int y0 :: .int y1 :: .ref b2 :: st) w nc ns Q := by
  refine ev_isub d_Ns_exclude_71 ?_
  exact ev_putf d_Ns_exclude_72 fl_Ns_16 rfl hw1.1 hw1.2 hk (qk_fitI _) k
theorem t_Ns_exclude_75 {d : Nat} {st : List Value} {o0 : Option Value} {o1 : Option Value} {o2 : Option Value} {o3 : Option Value} {o4 : Option Value} {x5 : Int32} {o6 : Option Value} {w : qk_W} {nc ns : Nat} {Q : Option Value ⊕ Nat → qk_W → Nat → Nat → Prop}  (hc1 : qk_c2 [o0, o1, o2, o3, o4, some (.int x5), o6] 5 = true) (k : Ev d m_Ns_exclude 21 [o0, o1, o2, o3, o4, some (.int (x5 + 1)), o6] st w nc ns Q) : Ev d m_Ns_exclude 75 [o0, o1, o2, o3, o4, some (.int x5), o6] st w nc ns Q := by
  refine ev_iinc 1 d_Ns_exclude_75 (by decide) rfl (by decide) hc1 ?_
  refine ev_goto 21 d_Ns_exclude_78 (by decide) ?_
  exact k
theorem t_Ns_exclude_81 {d : Nat} {o0 : Option Value} {o1 : Option Value} {o2 : Option Value} {o3 : Option Value} {o4 : Option Value} {o5 : Option Value} {o6 : Option Value} {w : qk_W} {nc ns : Nat} {Q : Option Value ⊕ Nat → qk_W → Nat → Nat → Prop}   (hq : Q (.inl none) w nc ns) : Ev d m_Ns_exclude 81 [o0, o1, o2, o3, o4, o5, o6] [] w nc ns Q := by
  exact ev_vret d_Ns_exclude_81 rfl hq
/-! Ns_bitsOfWord -/
theorem d_Ns_bitsOfWord_0 : decode m_Ns_bitsOfWord.2.1 0 = .ok (.iload_n 1, 1) := by decide +kernel
theorem d_Ns_bitsOfWord_1 : decode m_Ns_bitsOfWord.2.1 1 = .ok (.iload_n 0, 1) := by decide +kernel
theorem d_Ns_bitsOfWord_2 : decode m_Ns_bitsOfWord.2.1 2 = .ok (.bipush 32, 2) := by decide +kernel
theorem d_Ns_bitsOfWord_4 : decode m_Ns_bitsOfWord.2.1 4 = .ok (.imul, 1) := by decide +kernel
theorem d_Ns_bitsOfWord_5 : decode m_Ns_bitsOfWord.2.1 5 = .ok (.isub, 1) := by decide +kernel
theorem d_Ns_bitsOfWord_6 : decode m_Ns_bitsOfWord.2.1 6 = .ok (.iconst 0, 1) := by decide +kernel
theorem d_Ns_bitsOfWord_7 : decode m_Ns_bitsOfWord.2.1 7 = .ok (.invokestatic 26, 3) := by decide +kernel
theorem d_Ns_bitsOfWord_10 : decode m_Ns_bitsOfWord.2.1 10 = .ok (.istore_n 3, 1) := by decide +kernel
theorem d_Ns_bitsOfWord_11 : decode m_Ns_bitsOfWord.2.1 11 = .ok (.iload_n 2, 1) := by decide +kernel
theorem d_Ns_bitsOfWord_12 : decode m_Ns_bitsOfWord.2.1 12 = .ok (.iload_n 0, 1) := by decide +kernel
theorem d_Ns_bitsOfWord_13 : decode m_Ns_bitsOfWord.2.1 13 = .ok (.bipush 32, 2) := by decide +kernel
theorem d_Ns_bitsOfWord_15 : decode m_Ns_bitsOfWord.2.1 15 = .ok (.imul, 1) := by decide +kernel
theorem d_Ns_bitsOfWord_16 : decode m_Ns_bitsOfWord.2.1 16 = .ok (.isub, 1) := by decide +kernel
theorem d_Ns_bitsOfWord_17 : decode m_Ns_bitsOfWord.2.1 17 = .ok (.bipush 31, 2) := by decide +kernel
theorem d_Ns_bitsOfWord_19 : decode m_Ns_bitsOfWord.2.1 19 = .ok (.invokestatic 20, 3) := by decide +kernel
theorem d_Ns_bitsOfWord_22 : decode m_Ns_bitsOfWord.2.1 22 = .ok (.istore 4, 2) := by decide +kernel
theorem d_Ns_bitsOfWord_24 : decode m_Ns_bitsOfWord.2.1 24 = .ok (.iload_n 3, 1) := by decide +kernel
theorem d_Ns_bitsOfWord_25 : decode m_Ns_bitsOfWord.2.1 25 = .ok (.iload 4, 2) := by decide +kernel
theorem d_Ns_bitsOfWord_27 : decode m_Ns_bitsOfWord.2.1 27 = .ok (.if_icmp .le 7, 3) := by decide +kernel
theorem d_Ns_bitsOfWord_30 : decode m_Ns_bitsOfWord.2.1 30 = .ok (.iconst 0, 1) := by decide +kernel
theorem d_Ns_bitsOfWord_31 : decode m_Ns_bitsOfWord.2.1 31 = .ok (.goto 14, 3) := by decide +kernel
theorem d_Ns_bitsOfWord_34 : decode m_Ns_bitsOfWord.2.1 34 = .ok (.iconst (-1), 1) := by decide +kernel
theorem d_Ns_bitsOfWord_35 : decode m_Ns_bitsOfWord.2.1 35 = .ok (.iload_n 3, 1) := by decide +kernel
theorem d_Ns_bitsOfWord_36 : decode m_Ns_bitsOfWord.2.1 36 = .ok (.ishl, 1) := by decide +kernel
theorem d_Ns_bitsOfWord_37 : decode m_Ns_bitsOfWord.2.1 37 = .ok (.iconst (-1), 1) := by decide +kernel
theorem d_Ns_bitsOfWord_38 : decode m_Ns_bitsOfWord.2.1 38 = .ok (.bipush 31, 2) := by decide +kernel
theorem d_Ns_bitsOfWord_40 : decode m_Ns_bitsOfWord.2.1 40 = .ok (.iload 4, 2) := by decide +kernel
theorem d_Ns_bitsOfWord_42 : decode m_Ns_bitsOfWord.2.1 42 = .ok (.isub, 1) := by decide +kernel
theorem d_Ns_bitsOfWord_43 : decode m_Ns_bitsOfWord.2.1 43 = .ok (.iushr, 1) := by decide +kernel
theorem d_Ns_bitsOfWord_44 : decode m_Ns_bitsOfWord.2.1 44 = .ok (.iand, 1) := by decide +kernel
theorem d_Ns_bitsOfWord_45 : decode m_Ns_bitsOfWord.2.1 45 = .ok (.ireturn, 1) := by decide +kernel
theorem t_Ns_bitsOfWord_0 {d : Nat} {st : List Value} {x0 : Int32} {x1 : Int32} {o2 : Option Value} {o3 : Option Value} {o4 : Option Value} {w : qk_W} {nc ns : Nat} {Q : Option Value ⊕ Nat → qk_W → Nat → Nat → Prop}  (h8 : (st.map fun v => Value.category v).sum ≤ 8) (k : Ev d m_Math_max 0 [some (.int (x1 - (x0 * 32))), some (.int 0)] [] w nc ns (fun r w1 nc1 ns1 => match r with | .inl v => Ev (d + 1) m_Ns_bitsOfWord 10 [some (.int x0), some (.int x1), o2, o3, o4] (v.toList ++ st) w1 nc1 ns1 Q | .inr x => Q (.inr x) w1 nc1 ns1)) : Ev (d + 1) m_Ns_bitsOfWord 0 [some (.int x0), some (.int x1), o2, o3, o4] st w nc ns Q := by
  refine ev_iload_n d_Ns_bitsOfWord_0 rfl ?_
  refine ev_iload_n d_Ns_bitsOfWord_1 rfl ?_
  refine ev_bipush 32 d_Ns_bitsOfWord_2 (by decide) ?_
  refine ev_imul d_Ns_bitsOfWord_4 ?_
  refine ev_isub d_Ns_bitsOfWord_5 ?_
  refine ev_iconst 0 d_Ns_bitsOfWord_6 (by decide) ?_
  exact ev_call (M' := m_Math_max) (As := [.int (x1 - (x0 * 32)), .int 0]) (st := st) d_Ns_bitsOfWord_7 i_Math_max (fun h => absurd h (by decide +kernel)) cw_Ns_26 rfl rfl trivial rfl (Nat.le_of_ble_eq_true rfl) h8 k
theorem t_Ns_bitsOfWord_10 {d : Nat} {st : List Value} {x0 : Int32} {o1 : Option Value} {x2 : Int32} {o3 : Option Value} {o4 : Option Value} {y0 : Int32} {w : qk_W} {nc ns : Nat} {Q : Option Value ⊕ Nat → qk_W → Nat → Nat → Prop}  (hc1 : qk_c2 [some (.int x0), o1, some (.int x2), o3, o4] 3 = true) (h8 : (st.map fun v => Value.category v).sum ≤ 8) (k : Ev d m_Math_min_III 0 [some (.int (x2 - (x0 * 32))), some (.int 31)] [] w nc ns (fun r w1 nc1 ns1 => match r with | .inl v => Ev (d + 1) m_Ns_bitsOfWord 22 [some (.int x0), o1, some (.int x2), some (.int y0), o4] (v.toList ++ st) w1 nc1 ns1 Q | .inr x => Q (.inr x) w1 nc1 ns1)) : Ev (d + 1) m_Ns_bitsOfWord 10 [some (.int x0), o1, some (.int x2), o3, o4] (.int y0 :: st) w nc ns Q := by
  refine ev_istore_n d_Ns_bitsOfWord_10 (by decide) hc1 ?_
  refine ev_iload_n d_Ns_bitsOfWord_11 rfl ?_
  refine ev_iload_n d_Ns_bitsOfWord_12 rfl ?_
  refine ev_bipush 32 d_Ns_bitsOfWord_13 (by decide) ?_
  refine ev_imul d_Ns_bitsOfWord_15 ?_
  refine ev_isub d_Ns_bitsOfWord_16 ?_
  refine ev_bipush 31 d_Ns_bitsOfWord_17 (by decide) ?_
  exact ev_call (M' := m_Math_min_III) (As := [.int (x2 - (x0 * 32)), .int 31]) (st := st) d_Ns_bitsOfWord_19 i_Math_min_III (fun h => absurd h (by decide +kernel)) cw_Ns_20 rfl rfl trivial rfl (Nat.le_of_ble_eq_true rfl) h8 k
theorem t_Ns_bitsOfWord_22 {d : Nat} {st : List Value} {o0 : Option Value} {o1 : Option Value} {o2 : Option Value} {x3 : Int32} {o4 : Option Value} {y0 : Int32} {w : qk_W} {nc ns : Nat} {Q : Option Value ⊕ Nat → qk_W → Nat → Nat → Prop}  (hc1 : qk_c2 [o0, o1, o2, some (.int x3), o4] 4 = true) (kt : x3 ≤ y0 → Ev d m_Ns_bitsOfWord 34 [o0, o1, o2, some (.int x3), some (.int y0)] st w nc ns Q) (kf : ¬ (x3 ≤ y0) → Ev d m_Ns_bitsOfWord 30 [o0, o1, o2, some (.int x3), some (.int y0)] st w nc ns Q) : Ev d m_Ns_bitsOfWord 22 [o0, o1, o2, some (.int x3), o4] (.int y0 :: st) w nc ns Q := by
  refine ev_istore d_Ns_bitsOfWord_22 (by decide) hc1 ?_
  refine ev_iload_n d_Ns_bitsOfWord_24 rfl ?_
  refine ev_iload d_Ns_bitsOfWord_25 rfl ?_
  exact ev_icmp_le 34 d_Ns_bitsOfWord_27 (by decide) kt kf
theorem t_Ns_bitsOfWord_30 {d : Nat} {o0 : Option Value} {o1 : Option Value} {o2 : Option Value} {o3 : Option Value} {o4 : Option Value} {w : qk_W} {nc ns : Nat} {Q : Option Value ⊕ Nat → qk_W → Nat → Nat → Prop}   (hq : Q (.inl (some (.int 0))) w nc ns) : Ev d m_Ns_bitsOfWord 30 [o0, o1, o2, o3, o4] [] w nc ns Q := by
  refine ev_iconst 0 d_Ns_bitsOfWord_30 (by decide) ?_
  refine ev_goto 45 d_Ns_bitsOfWord_31 (by decide) ?_
  exact ev_iret d_Ns_bitsOfWord_45 rfl rfl hq
theorem t_Ns_bitsOfWord_34 {d : Nat} {o0 : Option Value} {o1 : Option Value} {o2 : Option Value} {x3 : Int32} {x4 : Int32} {w : qk_W} {nc ns : Nat} {Q : Option Value ⊕ Nat → qk_W → Nat → Nat → Prop}   (hq : Q (.inl (some (.int ((qi_shl (-1) x3) &&& (qi_ushr (-1) (31 - x4)))))) w nc ns) : Ev d m_Ns_bitsOfWord 34 [o0, o1, o2, some (.int x3), some (.int x4)] [] w nc ns Q := by
  refine ev_iconst (-1) d_Ns_bitsOfWord_34 (by decide) ?_
  refine ev_iload_n d_Ns_bitsOfWord_35 rfl ?_
  refine ev_ishl d_Ns_bitsOfWord_36 ?_
  refine ev_iconst (-1) d_Ns_bitsOfWord_37 (by decide) ?_
  refine ev_bipush 31 d_Ns_bitsOfWord_38 (by decide) ?_
  refine ev_iload d_Ns_bitsOfWord_40 rfl ?_
  refine ev_isub d_Ns_bitsOfWord_42 ?_
  refine ev_iushr d_Ns_bitsOfWord_43 ?_
  refine ev_iand d_Ns_bitsOfWord_44 ?_
  exact ev_iret d_Ns_bitsOfWord_45 rfl rfl hq
/-! Ns_contains -/
theorem d_Ns_contains_0 : decode m_Ns_contains.2.1 0 = .ok (.iload_n 1, 1) := by decide +kernel
theorem d_Ns_contains_1 : decode m_Ns_contains.2.1 1 = .ok (.ifCond .lt 32, 3) := by decide +kernel
theorem d_Ns_contains_4 : decode m_Ns_contains.2.1 4 = .ok (.iload_n 1, 1) := by decide +kernel
theorem d_Ns_contains_5 : decode m_Ns_contains.2.1 5 = .ok (.ldc 15, 2) := by decide +kernel
theorem d_Ns_contains_7 : decode m_Ns_contains.2.1 7 = .ok (.if_icmp .ge 26, 3) := by decide +kernel
theorem d_Ns_contains_10 : decode m_Ns_contains.2.1 10 = .ok (.aload_n 0, 1) := by decide +kernel
theorem d_Ns_contains_11 : decode m_Ns_contains.2.1 11 = .ok (.getfield 9, 3) := by decide +kernel
theorem d_Ns_contains_14 : decode m_Ns_contains.2.1 14 = .ok (.iload_n 1, 1) := by decide +kernel
theorem d_Ns_contains_15 : decode m_Ns_contains.2.1 15 = .ok (.iconst 5, 1) := by decide +kernel
theorem d_Ns_contains_16 : decode m_Ns_contains.2.1 16 = .ok (.ishr, 1) := by decide +kernel
theorem d_Ns_contains_17 : decode m_Ns_contains.2.1 17 = .ok (.iaload, 1) := by decide +kernel
theorem d_Ns_contains_18 : decode m_Ns_contains.2.1 18 = .ok (.iload_n 1, 1) := by decide +kernel
theorem d_Ns_contains_19 : decode m_Ns_contains.2.1 19 = .ok (.bipush 31, 2) := by decide +kernel
theorem d_Ns_contains_21 : decode m_Ns_contains.2.1 21 = .ok (.iand, 1) := by decide +kernel
theorem d_Ns_contains_22 : decode m_Ns_contains.2.1 22 = .ok (.iushr, 1) := by decide +kernel
theorem d_Ns_contains_23 : decode m_Ns_contains.2.1 23 = .ok (.iconst 1, 1) := by decide +kernel
theorem d_Ns_contains_24 : decode m_Ns_contains.2.1 24 = .ok (.iand, 1) := by decide +kernel
theorem d_Ns_contains_25 : decode m_Ns_contains.2.1 25 = .ok (.iconst 1, 1) := by decide +kernel
theorem d_Ns_contains_26 : decode m_Ns_contains.2.1 26 = .ok (.if_icmp .ne 7, 3) := by decide +kernel
theorem d_Ns_contains_29 : decode m_Ns_contains.2.1 29 = .ok (.iconst 1, 1) := by decide +kernel
theorem d_Ns_contains_30 : decode m_Ns_contains.2.1 30 = .ok (.goto 4, 3) := by decide +kernel
theorem d_Ns_contains_33 : decode m_Ns_contains.2.1 33 = .ok (.iconst 0, 1) := by decide +kernel
theorem d_Ns_contains_34 : decode m_Ns_contains.2.1 34 = .ok (.ireturn, 1) := by decide +kernel
theorem t_Ns_contains_0 {d : Nat} {st : List Value} {o0 : Option Value} {x1 : Int32} {w : qk_W} {nc ns : Nat} {Q : Option Value ⊕ Nat → qk_W → Nat → Nat → Prop}   (kt : x1 < 0 → Ev d m_Ns_contains 33 [o0, some (.int x1)] st w nc ns Q) (kf : ¬ (x1 < 0) → Ev d m_Ns_contains 4 [o0, some (.int x1)] st w nc ns Q) : Ev d m_Ns_contains 0 [o0, some (.int x1)] st w nc ns Q := by
  refine ev_iload_n d_Ns_contains_0 rfl ?_
  exact ev_if_lt 33 d_Ns_contains_1 (by decide) kt kf
theorem t_Ns_contains_4 {d : Nat} {st : List Value} {o0 : Option Value} {x1 : Int32} {w : qk_W} {nc ns : Nat} {Q : Option Value ⊕ Nat → qk_W → Nat → Nat → Prop}   (kt : (32768 : Int32) ≤ x1 → Ev d m_Ns_contains 33 [o0, some (.int x1)] st w nc ns Q) (kf : ¬ ((32768 : Int32) ≤ x1) → Ev d m_Ns_contains 10 [o0, some (.int x1)] st w nc ns Q) : Ev d m_Ns_contains 4 [o0, some (.int x1)] st w nc ns Q := by
  refine ev_iload_n d_Ns_contains_4 rfl ?_
  refine ev_ldc 32768 d_Ns_contains_5 lc_Ns_15 ?_
  exact ev_icmp_ge 33 d_Ns_contains_7 (by decide) kt kf
theorem t_Ns_contains_10 {d : Nat} {st : List Value} {a0 : Nat} {x1 : Int32} {fs2 : List Value} {c4 : Nat} {n6 : Nat} {f7 : Nat → Int32} {w : qk_W} {nc ns : Nat} {Q : Option Value ⊕ Nat → qk_W → Nat → Nat → Prop}  (hw1 : wo w a0 3 fs2) (hf3 : fs2[0]? = some (.ref c4)) (ha5 : wi w c4 n6 f7) (hi8 : vp_in (qi_shr x1 5) n6) (kt : ¬ ((qi_ushr (f7 (qi_shr x1 5).toNatClampNeg) (x1 &&& 31)) &&& 1) = (1 : Int32) → Ev d m_Ns_contains 33 [some (.ref a0), some (.int x1)] st w nc ns Q) (kf : ((qi_ushr (f7 (qi_shr x1 5).toNatClampNeg) (x1 &&& 31)) &&& 1) = (1 : Int32) → Ev d m_Ns_contains 29 [some (.ref a0), some (.int x1)] st w nc ns Q) : Ev d m_Ns_contains 10 [some (.ref a0), some (.int x1)] st w nc ns Q := by
  refine ev_aload_n d_Ns_contains_10 rfl rfl ?_
  refine ev_getf d_Ns_contains_11 fl_Ns_9 hw1.1 hw1.2 hf3 ?_
  refine ev_iload_n d_Ns_contains_14 rfl ?_
  refine ev_iconst 5 d_Ns_contains_15 (by decide) ?_
  refine ev_ishr d_Ns_contains_16 ?_
  refine ev_iald d_Ns_contains_17 ha5 hi8 ?_
  refine ev_iload_n d_Ns_contains_18 rfl ?_
  refine ev_bipush 31 d_Ns_contains_19 (by decide) ?_
  refine ev_iand d_Ns_contains_21 ?_
  refine ev_iushr d_Ns_contains_22 ?_
  refine ev_iconst 1 d_Ns_contains_23 (by decide) ?_
  refine ev_iand d_Ns_contains_24 ?_
  refine ev_iconst 1 d_Ns_contains_25 (by decide) ?_
  exact ev_icmp_ne 33 d_Ns_contains_26 (by decide) kt kf
theorem t_Ns_contains_29 {d : Nat} {o0 : Option Value} {o1 : Option Value} {w : qk_W} {nc ns : Nat} {Q : Option Value ⊕ Nat → qk_W → Nat → Nat → Prop}   (hq : Q (.inl (some (.int 1))) w nc ns) : Ev d m_Ns_contains 29 [o0, o1] [] w nc ns Q := by
  refine ev_iconst 1 d_Ns_contains_29 (by decide) ?_
  refine ev_goto 34 d_Ns_contains_30 (by decide) ?_
  exact ev_iret d_Ns_contains_34 rfl rfl hq
theorem t_Ns_contains_33 {d : Nat} {o0 : Option Value} {o1 : Option Value} {w : qk_W} {nc ns : Nat} {Q : Option Value ⊕ Nat → qk_W → Nat → Nat → Prop}   (hq : Q (.inl (some (.int 0))) w nc ns) : Ev d m_Ns_contains 33 [o0, o1] [] w nc ns Q := by
  refine ev_iconst 0 d_Ns_contains_33 (by decide) ?_
  exact ev_iret d_Ns_contains_34 rfl rfl hq
/-! Ns_include -/
theorem d_Ns_include_0 : decode m_Ns_include.2.1 0 = .ok (.aload_n 0, 1) := by decide +kernel
theorem d_Ns_include_1 : decode m_Ns_include.2.1 1 = .ok (.getfield 16, 3) := by decide +kernel
theorem d_Ns_include_4 : decode m_Ns_include.2.1 4 = .ok (.istore_n 3, 1) := by decide +kernel
theorem d_Ns_include_5 : decode m_Ns_include.2.1 5 = .ok (.iload_n 2, 1) := by decide +kernel
theorem d_Ns_include_6 : decode m_Ns_include.2.1 6 = .ok (.sipush 32767, 3) := by decide +kernel
theorem d_Ns_include_9 : decode m_Ns_include.2.1 9 = .ok (.invokestatic 20, 3) := by decide +kernel
theorem d_Ns_include_12 : decode m_Ns_include.2.1 12 = .ok (.istore 4, 2) := by decide +kernel
theorem d_Ns_include_14 : decode m_Ns_include.2.1 14 = .ok (.iload_n 1, 1) := by decide +kernel
theorem d_Ns_include_15 : decode m_Ns_include.2.1 15 = .ok (.iconst 0, 1) := by decide +kernel
theorem d_Ns_include_16 : decode m_Ns_include.2.1 16 = .ok (.invokestatic 26, 3) := by decide +kernel
theorem d_Ns_include_19 : decode m_Ns_include.2.1 19 = .ok (.istore 5, 2) := by decide +kernel
theorem d_Ns_include_21 : decode m_Ns_include.2.1 21 = .ok (.iload 5, 2) := by decide +kernel
theorem d_Ns_include_23 : decode m_Ns_include.2.1 23 = .ok (.iconst 5, 1) := by decide +kernel
theorem d_Ns_include_24 : decode m_Ns_include.2.1 24 = .ok (.ishr, 1) := by decide +kernel
theorem d_Ns_include_25 : decode m_Ns_include.2.1 25 = .ok (.istore 6, 2) := by decide +kernel
theorem d_Ns_include_27 : decode m_Ns_include.2.1 27 = .ok (.iload 6, 2) := by decide +kernel
theorem d_Ns_include_29 : decode m_Ns_include.2.1 29 = .ok (.iload 4, 2) := by decide +kernel
theorem d_Ns_include_31 : decode m_Ns_include.2.1 31 = .ok (.iconst 5, 1) := by decide +kernel
theorem d_Ns_include_32 : decode m_Ns_include.2.1 32 = .ok (.ishr, 1) := by decide +kernel
theorem d_Ns_include_33 : decode m_Ns_include.2.1 33 = .ok (.if_icmp .gt 56, 3) := by decide +kernel
theorem d_Ns_include_36 : decode m_Ns_include.2.1 36 = .ok (.iload 6, 2) := by decide +kernel
theorem d_Ns_include_38 : decode m_Ns_include.2.1 38 = .ok (.iload 5, 2) := by decide +kernel
theorem d_Ns_include_40 : decode m_Ns_include.2.1 40 = .ok (.iload 4, 2) := by decide +kernel
theorem d_Ns_include_42 : decode m_Ns_include.2.1 42 = .ok (.invokestatic 29, 3) := by decide +kernel
theorem d_Ns_include_45 : decode m_Ns_include.2.1 45 = .ok (.aload_n 0, 1) := by decide +kernel
theorem d_Ns_include_46 : decode m_Ns_include.2.1 46 = .ok (.getfield 9, 3) := by decide +kernel
theorem d_Ns_include_49 : decode m_Ns_include.2.1 49 = .ok (.iload 6, 2) := by decide +kernel
theorem d_Ns_include_51 : decode m_Ns_include.2.1 51 = .ok (.iaload, 1) := by decide +kernel
theorem d_Ns_include_52 : decode m_Ns_include.2.1 52 = .ok (.iconst (-1), 1) := by decide +kernel
theorem d_Ns_include_53 : decode m_Ns_include.2.1 53 = .ok (.ixor, 1) := by decide +kernel
theorem d_Ns_include_54 : decode m_Ns_include.2.1 54 = .ok (.iand, 1) := by decide +kernel
theorem d_Ns_include_55 : decode m_Ns_include.2.1 55 = .ok (.istore 7, 2) := by decide +kernel
theorem d_Ns_include_57 : decode m_Ns_include.2.1 57 = .ok (.aload_n 0, 1) := by decide +kernel
theorem d_Ns_include_58 : decode m_Ns_include.2.1 58 = .ok (.getfield 9, 3) := by decide +kernel
theorem d_Ns_include_61 : decode m_Ns_include.2.1 61 = .ok (.iload 6, 2) := by decide +kernel
theorem d_Ns_include_63 : decode m_Ns_include.2.1 63 = .ok (.dup2, 1) := by decide +kernel
theorem d_Ns_include_64 : decode m_Ns_include.2.1 64 = .ok (.iaload, 1) := by decide +kernel
theorem d_Ns_include_65 : decode m_Ns_include.2.1 65 = .ok (.iload 7, 2) := by decide +kernel
theorem d_Ns_include_67 : decode m_Ns_include.2.1 67 = .ok (.ior, 1) := by decide +kernel
theorem d_Ns_include_68 : decode m_Ns_include.2.1 68 = .ok (.iastore, 1) := by decide +kernel
theorem d_Ns_include_69 : decode m_Ns_include.2.1 69 = .ok (.aload_n 0, 1) := by decide +kernel
theorem d_Ns_include_70 : decode m_Ns_include.2.1 70 = .ok (.dup, 1) := by decide +kernel
theorem d_Ns_include_71 : decode m_Ns_include.2.1 71 = .ok (.getfield 16, 3) := by decide +kernel
theorem d_Ns_include_74 : decode m_Ns_include.2.1 74 = .ok (.iload 7, 2) := by decide +kernel
theorem d_Ns_include_76 : decode m_Ns_include.2.1 76 = .ok (.invokestatic 33, 3) := by decide +kernel
theorem d_Ns_include_79 : decode m_Ns_include.2.1 79 = .ok (.iadd, 1) := by decide +kernel
theorem d_Ns_include_80 : decode m_Ns_include.2.1 80 = .ok (.putfield 16, 3) := by decide +kernel
theorem d_Ns_include_83 : decode m_Ns_include.2.1 83 = .ok (.iinc 6 1, 3) := by decide +kernel
theorem d_Ns_include_86 : decode m_Ns_include.2.1 86 = .ok (.goto (-59), 3) := by decide +kernel
theorem d_Ns_include_89 : decode m_Ns_include.2.1 89 = .ok (.aload_n 0, 1) := by decide +kernel
theorem d_Ns_include_90 : decode m_Ns_include.2.1 90 = .ok (.getfield 16, 3) := by decide +kernel
theorem d_Ns_include_93 : decode m_Ns_include.2.1 93 = .ok (.iload_n 3, 1) := by decide +kernel
theorem d_Ns_include_94 : decode m_Ns_include.2.1 94 = .ok (.isub, 1) := by decide +kernel
theorem d_Ns_include_95 : decode m_Ns_include.2.1 95 = .ok (.ireturn, 1) := by decide +kernel
theorem t_Ns_include_0 {d : Nat} {st : List Value} {a0 : Nat} {o1 : Option Value} {x2 : Int32} {o3 : Option Value} {o4 : Option Value} {o5 : Option Value} {o6 : Option Value} {o7 : Option Value} {fs2 : List Value} {n4 : Int32} {w : qk_W} {nc ns : Nat} {Q : Option Value ⊕ Nat → qk_W → Nat → Nat → Prop}  (hw1 : wo w a0 3 fs2) (hf3 : fs2[1]? = some (.int n4)) (hc5 : qk_c2 [some (.ref a0), o1, some (.int x2), o3, o4, o5, o6, o7] 3 = true) (h8 : (st.map fun v => Value.category v).sum ≤ 8) (k : Ev d m_Math_min_III 0 [some (.int x2), some (.int 32767)] [] w nc ns (fun r w1 nc1 ns1 => match r with | .inl v => Ev (d + 1) m_Ns_include 12 [some (.ref a0), o1, some (.int x2), some (.int n4), o4, o5, o6, o7] (v.toList ++ st) w1 nc1 ns1 Q | .inr x => Q (.inr x) w1 nc1 ns1)) : Ev (d + 1) m_Ns_include 0 [some (.ref a0), o1, some (.int x2), o3, o4, o5, o6, o7] st w nc ns Q := by
  refine ev_aload_n d_Ns_include_0 rfl rfl ?_
  refine ev_getf d_Ns_include_1 fl_Ns_16 hw1.1 hw1.2 hf3 ?_
  refine ev_istore_n d_Ns_include_4 (by decide) hc5 ?_
  refine ev_iload_n d_Ns_include_5 rfl ?_
  refine ev_sipush 32767 d_Ns_include_6 (by decide) ?_
  exact ev_call (M' := m_Math_min_III) (As := [.int x2, .int 32767]) (st := st) d_Ns_include_9 i_Math_min_III (fun h => absurd h (by decide +kernel)) cw_Ns_20 rfl rfl trivial rfl (Nat.le_of_ble_eq_true rfl) h8 k
theorem t_Ns_include_12 {d : Nat} {st : List Value} {o0 : Option Value} {x1 : Int32} {o2 : Option Value} {o3 : Option Value} {o4 : Option Value} {o5 : Option Value} {o6 : Option Value} {o7 : Option Value} {y0 : Int32} {w : qk_W} {nc ns : Nat} {Q : Option Value ⊕ Nat → qk_W → Nat → Nat → Prop}  (hc1 : qk_c2 [o0, some (.int x1), o2, o3, o4, o5, o6, o7] 4 = true) (h8 : (st.map fun v => Value.category v).sum ≤ 8) (k : Ev d m_Math_max 0 [some (.int x1), some (.int 0)] [] w nc ns (fun r w1 nc1 ns1 => match r with | .inl v => Ev (d + 1) m_Ns_include 19 [o0, some (.int x1), o2, o3, some (.int y0), o5, o6, o7] (v.toList ++ st) w1 nc1 ns1 Q | .inr x => Q (.inr x) w1 nc1 ns1)) : Ev (d + 1) m_Ns_include 12 [o0, some (.int x1), o2, o3, o4, o5, o6, o7] (.int y0 :: st) w nc ns Q := by
  refine ev_istore d_Ns_include_12 (by decide) hc1 ?_
  refine ev_iload_n d_Ns_include_14 rfl ?_
  refine ev_iconst 0 d_Ns_include_15 (by decide) ?_
  exact ev_call (M' := m_Math_max) (As := [.int x1, .int 0]) (st := st) d_Ns_include_16 i_Math_max (fun h => absurd h (by decide +kernel)) cw_Ns_26 rfl rfl trivial rfl (Nat.le_of_ble_eq_true rfl) h8 k
theorem t_Ns_include_19 {d : Nat} {st : List Value} {o0 : Option Value} {o1 : Option Value} {o2 : Option Value} {o3 : Option Value} {o4 : Option Value} {o5 : Option Value} {o6 : Option Value} {o7 : Option Value} {y0 : Int32} {w : qk_W} {nc ns : Nat} {Q : Option Value ⊕ Nat → qk_W → Nat → Nat → Prop}  (hc1 : qk_c2 [o0, o1, o2, o3, o4, o5, o6, o7] 5 = true) (k : Ev d m_Ns_include 27 [o0, o1, o2, o3, o4, some (.int y0), some (.int (qi_shr y0 5)), o7] st w nc ns Q) : Ev d m_Ns_include 19 [o0, o1, o2, o3, o4, o5, o6, o7] (.int y0 :: st) w nc ns Q := by
  refine ev_istore d_Ns_include_19 (by decide) hc1 ?_
  refine ev_iload d_Ns_include_21 rfl ?_
  refine ev_iconst 5 d_Ns_include_23 (by decide) ?_
  refine ev_ishr d_Ns_include_24 ?_
  refine ev_istore d_Ns_include_25 (by decide) rfl ?_
  exact k
theorem t_Ns_include_27 {d : Nat} {st : List Value} {o0 : Option Value} {o1 : Option Value} {o2 : Option Value} {o3 : Option Value} {x4 : Int32} {o5 : Option Value} {x6 : Int32} {o7 : Option Value} {w : qk_W} {nc ns : Nat} {Q : Option Value ⊕ Nat → qk_W → Nat → Nat → Prop}   (kt : (qi_shr x4 5) < x6 → Ev d m_Ns_include 89 [o0, o1, o2, o3, some (.int x4), o5, some (.int x6), o7] st w nc ns Q) (kf : ¬ ((qi_shr x4 5) < x6) → Ev d m_Ns_include 36 [o0, o1, o2, o3, some (.int x4), o5, some (.int x6), o7] st w nc ns Q) : Ev d m_Ns_include 27 [o0, o1, o2, o3, some (.int x4), o5, some (.int x6), o7] st w nc ns Q := by
  refine ev_iload d_Ns_include_27 rfl ?_
  refine ev_iload d_Ns_include_29 rfl ?_
  refine ev_iconst 5 d_Ns_include_31 (by decide) ?_
  refine ev_ishr d_Ns_include_32 ?_
  exact ev_icmp_gt 89 d_Ns_include_33 (by decide) kt kf
theorem t_Ns_include_36 {d : Nat} {st : List Value} {o0 : Option Value} {o1 : Option Value} {o2 : Option Value} {o3 : Option Value} {x4 : Int32} {x5 : Int32} {x6 : Int32} {o7 : Option Value} {w : qk_W} {nc ns : Nat} {Q : Option Value ⊕ Nat → qk_W → Nat → Nat → Prop}  (h8 : (st.map fun v => Value.category v).sum ≤ 8) (k : Ev d m_Ns_bitsOfWord 0 [some (.int x6), some (.int x5), some (.int x4), none, none] [] w nc ns (fun r w1 nc1 ns1 => match r with | .inl v => Ev (d + 1) m_Ns_include 45 [o0, o1, o2, o3, some (.int x4), some (.int x5), some (.int x6), o7] (v.toList ++ st) w1 nc1 ns1 Q | .inr x => Q (.inr x) w1 nc1 ns1)) : Ev (d + 1) m_Ns_include 36 [o0, o1, o2, o3, some (.int x4), some (.int x5), some (.int x6), o7] st w nc ns Q := by
  refine ev_iload d_Ns_include_36 rfl ?_
  refine ev_iload d_Ns_include_38 rfl ?_
  refine ev_iload d_Ns_include_40 rfl ?_
  exact ev_call (M' := m_Ns_bitsOfWord) (As := [.int x6, .int x5, .int x4]) (st := st) d_Ns_include_42 i_Ns_bitsOfWord (fun h => absurd h (by decide +kernel)) cw_Ns_29 rfl rfl trivial rfl (Nat.le_of_ble_eq_true rfl) h8 k
theorem t_Ns_include_45 {d : Nat} {st : List Value} {a0 : Nat} {o1 : Option Value} {o2 : Option Value} {o3 : Option Value} {o4 : Option Value} {o5 : Option Value} {x6 : Int32} {o7 : Option Value} {y0 : Int32} {fs2 : List Value} {c4 : Nat} {n6 : Nat} {f7 : Nat → Int32} {w : qk_W} {nc ns : Nat} {Q : Option Value ⊕ Nat → qk_W → Nat → Nat → Prop}  (hw1 : wo w a0 3 fs2) (hf3 : fs2[0]? = some (.ref c4)) (ha5 : wi w c4 n6 f7) (hi8 : vp_in x6 n6) (h16 : 16 ≤ c4) (k : Ev d m_Ns_include 69 [some (.ref a0), o1, o2, o3, o4, o5, some (.int x6), some (.int (y0 &&& ((f7 x6.toNatClampNeg) ^^^ (-1))))] st (qk_set w c4 (.inl (.int, n6, .inl (upd f7 x6.toNatClampNeg ((f7 x6.toNatClampNeg) ||| (y0 &&& ((f7 x6.toNatClampNeg) ^^^ (-1)))))))) nc ns Q) : Ev d m_Ns_include 45 [some (.ref a0), o1, o2, o3, o4, o5, some (.int x6), o7] (.int y0 :: st) w nc ns Q := by
  refine ev_aload_n d_Ns_include_45 rfl rfl ?_
  refine ev_getf d_Ns_include_46 fl_Ns_9 hw1.1 hw1.2 hf3 ?_
  refine ev_iload d_Ns_include_49 rfl ?_
  refine ev_iald d_Ns_include_51 ha5 hi8 ?_
  refine ev_iconst (-1) d_Ns_include_52 (by decide) ?_
  refine ev_ixor d_Ns_include_53 ?_
  refine ev_iand d_Ns_include_54 ?_
  refine ev_istore d_Ns_include_55 (by decide) rfl ?_
  refine ev_aload_n d_Ns_include_57 rfl rfl ?_
  refine ev_getf d_Ns_include_58 fl_Ns_9 hw1.1 hw1.2 hf3 ?_
  refine ev_iload d_Ns_include_61 rfl ?_
  refine ev_dup2 d_Ns_include_63 rfl rfl ?_
  refine ev_iald d_Ns_include_64 ha5 hi8 ?_
  refine ev_iload d_Ns_include_65 rfl ?_
  refine ev_ior d_Ns_include_67 ?_
  exact ev_iast d_Ns_include_68 h16 ha5 hi8 k
theorem t_Ns_include_69 {d : Nat} {st : List Value} {a0 : Nat} {o1 : Option Value} {o2 : Option Value} {o3 : Option Value} {o4 : Option Value} {o5 : Option Value} {o6 : Option Value} {x7 : Int32} {fs2 : List Value} {n4 : Int32} {w : qk_W} {nc ns : Nat} {Q : Option Value ⊕ Nat → qk_W → Nat → Nat → Prop}  (hw1 : wo w a0 3 fs2) (hf3 : fs2[1]? = some (.int n4)) (h8 : ((.int n4 :: .ref a0 :: st).map fun v => Value.category v).sum ≤ 8) (k : Ev d m_Int_bitCount 0 [some (.int x7)] [] w nc ns (fun r w1 nc1 ns1 => match r with | .inl v => Ev (d + 1) m_Ns_include 79 [some (.ref a0), o1, o2, o3, o4, o5, o6, some (.int x7)] (v.toList ++ (.int n4 :: .ref a0 :: st)) w1 nc1 ns1 Q | .inr x => Q (.inr x) w1 nc1 ns1)) : Ev (d + 1) m_Ns_include 69 [some (.ref a0), o1, o2, o3, o4, o5, o6, some (.int x7)] st w nc ns Q := by
  refine ev_aload_n d_Ns_include_69 rfl rfl ?_
  refine ev_dup d_Ns_include_70 rfl ?_
  refine ev_getf d_Ns_include_71 fl_Ns_16 hw1.1 hw1.2 hf3 ?_
  refine ev_iload d_Ns_include_74 rfl ?_
  exact ev_call (M' := m_Int_bitCount) (As := [.int x7]) (st := (.int n4 :: .ref a0 :: st)) d_Ns_include_76 i_Int_bitCount (fun h => absurd h (by decide +kernel)) cw_Ns_33 rfl rfl trivial rfl (Nat.le_of_ble_eq_true rfl) h8 k
theorem t_Ns_include_79 {d : Nat} {st : List Value} {o0 : Option Value} {o1 : Option Value} {o2 : Option Value} {o3 : Option Value} {o4 : Option Value} {o5 : Option Value} {o6 : Option Value} {o7 : Option Value} {y0 : Int32} {y1 : Int32} {b2 : Nat} {fs2 : List Value} {w : qk_W} {nc ns : Nat} {Q : Option Value ⊕ Nat → qk_W → Nat → Nat → Prop}  (hw1 : wo w b2 3 fs2) (hk : 1 < fs2.length) (k : Ev d m_Ns_include 83 [o0, o1, o2, o3, o4, o5, o6, o7] st (qk_set w b2 (.inr (3, fs2.set 1 (.int (y1 + y0))))) nc ns Q) : Ev d m_Ns_include 79 [o0, o1, o2, o3, o4, o5, o6, o7] (.int y0 :: .int y1 :: .ref b2 :: st) w nc ns Q := by
  refine ev_iadd d_Ns_include_79 ?_
  exact ev_putf d_Ns_include_80 fl_Ns_16 rfl hw1.1 hw1.2 hk (qk_fitI _) k
theorem t_Ns_include_83 {d : Nat} {st : List Value} {o0 : Option Value} {o1 : Option Value} {o2 : Option Value} {o3 : Option Value} {o4 : Option Value} {o5 : Option Value} {x6 : Int32} {o7 : Option Value} {w : qk_W} {nc ns : Nat} {Q : Option Value ⊕ Nat → qk_W → Nat → Nat → Prop}  (hc1 : qk_c2 [o0, o1, o2, o3, o4, o5, some (.int x6), o7] 6 = true) (k : Ev d m_Ns_include 27 [o0, o1, o2, o3, o4, o5, some (.int (x6 + 1)), o7] st w nc ns Q) : Ev d m_Ns_include 83 [o0, o1, o2, o3, o4, o5, some (.int x6), o7] st w nc ns Q := by
  refine ev_iinc 1 d_Ns_include_83 (by decide) rfl (by decide) hc1 ?_
  refine ev_goto 27 d_Ns_include_86 (by decide) ?_
  exact k
theorem t_Ns_include_89 {d : Nat} {a0 : Nat} {o1 : Option Value} {o2 : Option Value} {x3 : Int32} {o4 : Option Value} {o5 : Option Value} {o6 : Option Value} {o7 : Option Value} {fs2 : List Value} {n4 : Int32} {w : qk_W} {nc ns : Nat} {Q : Option Value ⊕ Nat → qk_W → Nat → Nat → Prop}  (hw1 : wo w a0 3 fs2) (hf3 : fs2[1]? = some (.int n4)) (hq : Q (.inl (some (.int (n4 - x3)))) w nc ns) : Ev d m_Ns_include 89 [some (.ref a0), o1, o2, some (.int x3), o4, o5, o6, o7] [] w nc ns Q := by
  refine ev_aload_n d_Ns_include_89 rfl rfl ?_
  refine ev_getf d_Ns_include_90 fl_Ns_16 hw1.1 hw1.2 hf3 ?_
  refine ev_iload_n d_Ns_include_93 rfl ?_
  refine ev_isub d_Ns_include_94 ?_
  exact ev_iret d_Ns_include_95 rfl rfl hq
