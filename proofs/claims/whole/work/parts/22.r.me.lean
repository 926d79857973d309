/-! Me_init -/
theorem ob_Me_3 : Cond.methodLink "QuakeLink$Message" 3 Lib.objectInit ∈ lw_tbl := (lw_i1 _ (List.mem_of_getElem? (i := 227) rfl))
theorem fl_Me_9 : qk_fl "QuakeLink$Message" 9 8 0 := ⟨_, rfl, by decide, rfl, (lw_i1 _ (List.mem_of_getElem? (i := 228) rfl))⟩
theorem d_Me_init_0 : decode m_Me_init.2.1 0 = .ok (.aload_n 0, 1) := by decide +kernel
theorem d_Me_init_1 : decode m_Me_init.2.1 1 = .ok (.invokespecial 3, 3) := by decide +kernel
theorem d_Me_init_4 : decode m_Me_init.2.1 4 = .ok (.aload_n 0, 1) := by decide +kernel
theorem d_Me_init_5 : decode m_Me_init.2.1 5 = .ok (.sipush 512, 3) := by decide +kernel
theorem d_Me_init_8 : decode m_Me_init.2.1 8 = .ok (.newarray .byte, 2) := by decide +kernel
theorem d_Me_init_10 : decode m_Me_init.2.1 10 = .ok (.putfield 9, 3) := by decide +kernel
theorem d_Me_init_13 : decode m_Me_init.2.1 13 = .ok (.return_, 1) := by decide +kernel
theorem t_Me_init_0 {d : Nat} {st : List Value} {a0 : Nat} {w : qk_W} {nc ns : Nat} {Q : Option Value ⊕ Nat → qk_W → Nat → Nat → Prop}  (h8 : (st.map fun v => Value.category v).sum ≤ 8) (k : Ev (d + 1) m_Me_init 4 [some (.ref a0)] st w nc ns Q) : Ev (d + 1) m_Me_init 0 [some (.ref a0)] st w nc ns Q := by
  refine ev_aload_n d_Me_init_0 rfl rfl ?_
  exact ev_obj d_Me_init_1 ob_Me_3 ob_inst ob_code (by omega) h8 k
theorem t_Me_init_4 {d : Nat} {st : List Value} {v0 : Value} {w : qk_W} {nc ns : Nat} {Q : Option Value ⊕ Nat → qk_W → Nat → Nat → Prop} (hv0 : qk_isr v0 = true) (v : Nat) (hv : 16 ≤ v) (hn : w v = none) (k : Ev d m_Me_init 10 [some v0] (.ref v :: v0 :: st) (qk_set w v (.inl (.byte, (512, .inl (fun _ => 0))))) (nc + 1) (ns + 512) Q) : Ev d m_Me_init 4 [some v0] st w nc ns Q := by
  refine ev_aload_n d_Me_init_4 rfl hv0 ?_
  refine ev_sipush 512 d_Me_init_5 (by decide) ?_
  exact ev_newa v (512, .inl (fun _ => 0)) d_Me_init_8 rfl (by decide) (lw_i2 _ (List.mem_of_getElem? (i := 6) rfl)) (fun C h => by cases h) (fun cA => rfl) (fun ρ => rfl) (fun w => trivial) (by decide) (by decide) (by decide) hv hn k
theorem t_Me_init_10 {d : Nat} {st : List Value} {o0 : Option Value} {s0 : Value} {b1 : Nat} {fs2 : List Value} {w : qk_W} {nc ns : Nat} {Q : Option Value ⊕ Nat → qk_W → Nat → Nat → Prop} (hs0 : qk_isr s0 = true) (hw1 : wo w b1 8 fs2) (hk : 0 < fs2.length) (hz : qk_fit (qk_fty 8 0) s0 = true) (k : Ev d m_Me_init 13 [o0] st (qk_set w b1 (.inr (8, fs2.set 0 (s0)))) nc ns Q) : Ev d m_Me_init 10 [o0] (s0 :: .ref b1 :: st) w nc ns Q := by
  exact ev_putF d_Me_init_10 fl_Me_9 rfl rfl rfl hw1.1 hw1.2 hk hz k
theorem t_Me_init_13 {d : Nat} {o0 : Option Value} {w : qk_W} {nc ns : Nat} {Q : Option Value ⊕ Nat → qk_W → Nat → Nat → Prop}   (hq : Q (.inl none) w nc ns) : Ev d m_Me_init 13 [o0] [] w nc ns Q := by
  exact ev_vret d_Me_init_13 rfl hq
/-! Me_copy -/
theorem fl_Me_19 : qk_fl "QuakeLink$Message" 19 8 1 := ⟨_, rfl, by decide, rfl, (lw_i1 _ (List.mem_of_getElem? (i := 236) rfl))⟩
theorem cp_Me_23 : Cond.methodLink "QuakeLink$Message" 23 arraycopyName ∈ lw_tbl := (lw_i2 _ (List.mem_of_getElem? (i := 77) rfl))
theorem d_Me_copy_0 : decode m_Me_copy.2.1 0 = .ok (.aload_n 1, 1) := by decide +kernel
theorem d_Me_copy_1 : decode m_Me_copy.2.1 1 = .ok (.getfield 9, 3) := by decide +kernel
theorem d_Me_copy_4 : decode m_Me_copy.2.1 4 = .ok (.iconst 0, 1) := by decide +kernel
theorem d_Me_copy_5 : decode m_Me_copy.2.1 5 = .ok (.aload_n 0, 1) := by decide +kernel
theorem d_Me_copy_6 : decode m_Me_copy.2.1 6 = .ok (.getfield 9, 3) := by decide +kernel
theorem d_Me_copy_9 : decode m_Me_copy.2.1 9 = .ok (.iconst 0, 1) := by decide +kernel
theorem d_Me_copy_10 : decode m_Me_copy.2.1 10 = .ok (.aload_n 1, 1) := by decide +kernel
theorem d_Me_copy_11 : decode m_Me_copy.2.1 11 = .ok (.getfield 19, 3) := by decide +kernel
theorem d_Me_copy_14 : decode m_Me_copy.2.1 14 = .ok (.invokestatic 23, 3) := by decide +kernel
theorem d_Me_copy_17 : decode m_Me_copy.2.1 17 = .ok (.return_, 1) := by decide +kernel
theorem t_Me_copy_0 {d : Nat} {st : List Value} {a0 : Nat} {a1 : Nat} {fs2 : List Value} {c4 : Nat} {fs6 : List Value} {c8 : Nat} {n12 : Int32} {n0 n1 : Nat} {f g : Nat → Int32} {w : qk_W} {nc ns : Nat} {Q : Option Value ⊕ Nat → qk_W → Nat → Nat → Prop}  (hw1 : wo w a1 8 fs2) (hf3 : fs2[0]? = some (.ref c4)) (hw5 : wo w a0 8 fs6) (hf7 : fs6[0]? = some (.ref c8)) (hf11 : fs2[1]? = some (.int n12)) (h0 : wb w c4 n0 f) (h1 : wb w c8 n1 g) (k1 : ¬ (0 : Int32) < 0) (k2 : ¬ (0 : Int32) < 0) (k3 : ¬ n12 < 0) (k4 : (0 : Int32).toNatClampNeg + n12.toNatClampNeg ≤ n0) (k5 : (0 : Int32).toNatClampNeg + n12.toNatClampNeg ≤ n1) (hfit : ∀ i, i < n12.toNatClampNeg → fits .byte (.int (f ((0 : Int32).toNatClampNeg + i))) = true) (h8 : (st.map fun v => Value.category v).sum ≤ 8) (k : Ev (d + 1) m_Me_copy 17 [some (.ref a0), some (.ref a1)] st (qk_set w c8 (.inl (.byte, n1, .inl (va_cpy f g (0 : Int32).toNatClampNeg (0 : Int32).toNatClampNeg n12.toNatClampNeg)))) nc ns Q) : Ev (d + 1) m_Me_copy 0 [some (.ref a0), some (.ref a1)] st w nc ns Q := by
  refine ev_aload_n d_Me_copy_0 rfl rfl ?_
  refine ev_getf d_Me_copy_1 fl_Me_9 hw1.1 hw1.2 hf3 ?_
  refine ev_iconst 0 d_Me_copy_4 (by decide) ?_
  refine ev_aload_n d_Me_copy_5 rfl rfl ?_
  refine ev_getf d_Me_copy_6 fl_Me_9 hw5.1 hw5.2 hf7 ?_
  refine ev_iconst 0 d_Me_copy_9 (by decide) ?_
  refine ev_aload_n d_Me_copy_10 rfl rfl ?_
  refine ev_getf d_Me_copy_11 fl_Me_19 hw1.1 hw1.2 hf11 ?_
  exact ev_copy d_Me_copy_14 cp_Me_23 ob_nat ob_stat ob_sys h0.1 h1.1 h0.2 h1.2 k1 k2 k3 k4 k5 hfit (by omega) h8 (by decide +kernel) k
theorem t_Me_copy_17 {d : Nat} {o0 : Option Value} {o1 : Option Value} {w : qk_W} {nc ns : Nat} {Q : Option Value ⊕ Nat → qk_W → Nat → Nat → Prop}   (hq : Q (.inl none) w nc ns) : Ev d m_Me_copy 17 [o0, o1] [] w nc ns Q := by
  exact ev_vret d_Me_copy_17 rfl hq
/-! Me_put -/
theorem d_Me_put_0 : decode m_Me_put.2.1 0 = .ok (.iconst 0, 1) := by decide +kernel
theorem d_Me_put_1 : decode m_Me_put.2.1 1 = .ok (.istore 4, 2) := by decide +kernel
theorem d_Me_put_3 : decode m_Me_put.2.1 3 = .ok (.iload 4, 2) := by decide +kernel
theorem d_Me_put_5 : decode m_Me_put.2.1 5 = .ok (.iload_n 2, 1) := by decide +kernel
theorem d_Me_put_6 : decode m_Me_put.2.1 6 = .ok (.if_icmp .ge 30, 3) := by decide +kernel
theorem d_Me_put_9 : decode m_Me_put.2.1 9 = .ok (.aload_n 0, 1) := by decide +kernel
theorem d_Me_put_10 : decode m_Me_put.2.1 10 = .ok (.getfield 9, 3) := by decide +kernel
theorem d_Me_put_13 : decode m_Me_put.2.1 13 = .ok (.iload_n 1, 1) := by decide +kernel
theorem d_Me_put_14 : decode m_Me_put.2.1 14 = .ok (.iload 4, 2) := by decide +kernel
theorem d_Me_put_16 : decode m_Me_put.2.1 16 = .ok (.iadd, 1) := by decide +kernel
theorem d_Me_put_17 : decode m_Me_put.2.1 17 = .ok (.iload_n 3, 1) := by decide +kernel
theorem d_Me_put_18 : decode m_Me_put.2.1 18 = .ok (.bipush 8, 2) := by decide +kernel
theorem d_Me_put_20 : decode m_Me_put.2.1 20 = .ok (.iload_n 2, 1) := by decide +kernel
theorem d_Me_put_21 : decode m_Me_put.2.1 21 = .ok (.iconst 1, 1) := by decide +kernel
theorem d_Me_put_22 : decode m_Me_put.2.1 22 = .ok (.isub, 1) := by decide +kernel
theorem d_Me_put_23 : decode m_Me_put.2.1 23 = .ok (.iload 4, 2) := by decide +kernel
theorem d_Me_put_25 : decode m_Me_put.2.1 25 = .ok (.isub, 1) := by decide +kernel
theorem d_Me_put_26 : decode m_Me_put.2.1 26 = .ok (.imul, 1) := by decide +kernel
theorem d_Me_put_27 : decode m_Me_put.2.1 27 = .ok (.iushr, 1) := by decide +kernel
theorem d_Me_put_28 : decode m_Me_put.2.1 28 = .ok (.i2b, 1) := by decide +kernel
theorem d_Me_put_29 : decode m_Me_put.2.1 29 = .ok (.bastore, 1) := by decide +kernel
theorem d_Me_put_30 : decode m_Me_put.2.1 30 = .ok (.iinc 4 1, 3) := by decide +kernel
theorem d_Me_put_33 : decode m_Me_put.2.1 33 = .ok (.goto (-30), 3) := by decide +kernel
theorem d_Me_put_36 : decode m_Me_put.2.1 36 = .ok (.return_, 1) := by decide +kernel
theorem t_Me_put_0 {d : Nat} {st : List Value} {o0 : Option Value} {o1 : Option Value} {o2 : Option Value} {o3 : Option Value} {o4 : Option Value} {w : qk_W} {nc ns : Nat} {Q : Option Value ⊕ Nat → qk_W → Nat → Nat → Prop}  (hc1 : qk_c2 [o0, o1, o2, o3, o4] 4 = true) (k : Ev d m_Me_put 3 [o0, o1, o2, o3, some (.int 0)] st w nc ns Q) : Ev d m_Me_put 0 [o0, o1, o2, o3, o4] st w nc ns Q := by
  refine ev_iconst 0 d_Me_put_0 (by decide) ?_
  refine ev_istore d_Me_put_1 (by decide) hc1 ?_
  exact k
theorem t_Me_put_3 {d : Nat} {st : List Value} {o0 : Option Value} {o1 : Option Value} {x2 : Int32} {o3 : Option Value} {x4 : Int32} {w : qk_W} {nc ns : Nat} {Q : Option Value ⊕ Nat → qk_W → Nat → Nat → Prop}   (kt : x2 ≤ x4 → Ev d m_Me_put 36 [o0, o1, some (.int x2), o3, some (.int x4)] st w nc ns Q) (kf : ¬ (x2 ≤ x4) → Ev d m_Me_put 9 [o0, o1, some (.int x2), o3, some (.int x4)] st w nc ns Q) : Ev d m_Me_put 3 [o0, o1, some (.int x2), o3, some (.int x4)] st w nc ns Q := by
  refine ev_iload d_Me_put_3 rfl ?_
  refine ev_iload_n d_Me_put_5 rfl ?_
  exact ev_icmp_ge 36 d_Me_put_6 (by decide) kt kf
theorem t_Me_put_9 {d : Nat} {st : List Value} {a0 : Nat} {x1 : Int32} {x2 : Int32} {x3 : Int32} {x4 : Int32} {fs2 : List Value} {c4 : Nat} {n6 : Nat} {f7 : Nat → Int32} {w : qk_W} {nc ns : Nat} {Q : Option Value ⊕ Nat → qk_W → Nat → Nat → Prop}  (hw1 : wo w a0 8 fs2) (hf3 : fs2[0]? = some (.ref c4)) (ha5 : wb w c4 n6 f7) (hi : vp_in (x1 + x4) n6) (k : Ev d m_Me_put 30 [some (.ref a0), some (.int x1), some (.int x2), some (.int x3), some (.int x4)] st (qk_set w c4 (.inl (.byte, n6, .inl (upd f7 (x1 + x4).toNatClampNeg (Int32.toInt8 ((Int32.toInt8 (qi_ushr x3 (8 * ((x2 - 1) - x4)))).toInt32)).toInt32)))) nc ns Q) : Ev d m_Me_put 9 [some (.ref a0), some (.int x1), some (.int x2), some (.int x3), some (.int x4)] st w nc ns Q := by
  refine ev_aload_n d_Me_put_9 rfl rfl ?_
  refine ev_getf d_Me_put_10 fl_Me_9 hw1.1 hw1.2 hf3 ?_
  refine ev_iload_n d_Me_put_13 rfl ?_
  refine ev_iload d_Me_put_14 rfl ?_
  refine ev_iadd d_Me_put_16 ?_
  refine ev_iload_n d_Me_put_17 rfl ?_
  refine ev_bipush 8 d_Me_put_18 (by decide) ?_
  refine ev_iload_n d_Me_put_20 rfl ?_
  refine ev_iconst 1 d_Me_put_21 (by decide) ?_
  refine ev_isub d_Me_put_22 ?_
  refine ev_iload d_Me_put_23 rfl ?_
  refine ev_isub d_Me_put_25 ?_
  refine ev_imul d_Me_put_26 ?_
  refine ev_iushr d_Me_put_27 ?_
  refine ev_i2b d_Me_put_28 ?_
  exact ev_bast d_Me_put_29 ha5.1 ha5.2 hi k
theorem t_Me_put_30 {d : Nat} {st : List Value} {o0 : Option Value} {o1 : Option Value} {o2 : Option Value} {o3 : Option Value} {x4 : Int32} {w : qk_W} {nc ns : Nat} {Q : Option Value ⊕ Nat → qk_W → Nat → Nat → Prop}  (hc1 : qk_c2 [o0, o1, o2, o3, some (.int x4)] 4 = true) (k : Ev d m_Me_put 3 [o0, o1, o2, o3, some (.int (x4 + 1))] st w nc ns Q) : Ev d m_Me_put 30 [o0, o1, o2, o3, some (.int x4)] st w nc ns Q := by
  refine ev_iinc 1 d_Me_put_30 (by decide) rfl (by decide) hc1 ?_
  refine ev_goto 3 d_Me_put_33 (by decide) ?_
  exact k
theorem t_Me_put_36 {d : Nat} {o0 : Option Value} {o1 : Option Value} {o2 : Option Value} {o3 : Option Value} {o4 : Option Value} {w : qk_W} {nc ns : Nat} {Q : Option Value ⊕ Nat → qk_W → Nat → Nat → Prop}   (hq : Q (.inl none) w nc ns) : Ev d m_Me_put 36 [o0, o1, o2, o3, o4] [] w nc ns Q := by
  exact ev_vret d_Me_put_36 rfl hq
/-! Me_seal -/
theorem cw_Me_29 : qk_cw "QuakeLink$Message" m_Me_check.1 (.invokevirtual 29) := ⟨(lw_i2 _ (List.mem_of_getElem? (i := 92) rfl)), (lw_i2 _ (List.mem_of_getElem? (i := 94) rfl)), (lw_i0 _ (List.mem_of_getElem? (i := 6) rfl))⟩
theorem cw_Me_33 : qk_cw "QuakeLink$Message" m_Me_put.1 (.invokevirtual 33) := ⟨(lw_i2 _ (List.mem_of_getElem? (i := 98) rfl)), (lw_i2 _ (List.mem_of_getElem? (i := 85) rfl)), (lw_i2 _ (List.mem_of_getElem? (i := 86) rfl))⟩
theorem d_Me_seal_0 : decode m_Me_seal.2.1 0 = .ok (.aload_n 0, 1) := by decide +kernel
theorem d_Me_seal_1 : decode m_Me_seal.2.1 1 = .ok (.aload_n 0, 1) := by decide +kernel
theorem d_Me_seal_2 : decode m_Me_seal.2.1 2 = .ok (.getfield 19, 3) := by decide +kernel
theorem d_Me_seal_5 : decode m_Me_seal.2.1 5 = .ok (.iconst 4, 1) := by decide +kernel
theorem d_Me_seal_6 : decode m_Me_seal.2.1 6 = .ok (.isub, 1) := by decide +kernel
theorem d_Me_seal_7 : decode m_Me_seal.2.1 7 = .ok (.iconst 4, 1) := by decide +kernel
theorem d_Me_seal_8 : decode m_Me_seal.2.1 8 = .ok (.aload_n 0, 1) := by decide +kernel
theorem d_Me_seal_9 : decode m_Me_seal.2.1 9 = .ok (.invokevirtual 29, 3) := by decide +kernel
theorem d_Me_seal_12 : decode m_Me_seal.2.1 12 = .ok (.invokevirtual 33, 3) := by decide +kernel
theorem d_Me_seal_15 : decode m_Me_seal.2.1 15 = .ok (.return_, 1) := by decide +kernel
theorem t_Me_seal_0 {d : Nat} {st : List Value} {a0 : Nat} {fs2 : List Value} {n4 : Int32} {w : qk_W} {nc ns : Nat} {Q : Option Value ⊕ Nat → qk_W → Nat → Nat → Prop}  (hw1 : wo w a0 8 fs2) (hf3 : fs2[1]? = some (.int n4)) (h8 : ((.int 4 :: .int (n4 - 4) :: .ref a0 :: st).map fun v => Value.category v).sum ≤ 8) (k : Ev d m_Me_check 0 [some (.ref a0), none, none] [] w nc ns (fun r w1 nc1 ns1 => match r with | .inl v => Ev (d + 1) m_Me_seal 12 [some (.ref a0)] (v.toList ++ (.int 4 :: .int (n4 - 4) :: .ref a0 :: st)) w1 nc1 ns1 Q | .inr x => Q (.inr x) w1 nc1 ns1)) : Ev (d + 1) m_Me_seal 0 [some (.ref a0)] st w nc ns Q := by
  refine ev_aload_n d_Me_seal_0 rfl rfl ?_
  refine ev_aload_n d_Me_seal_1 rfl rfl ?_
  refine ev_getf d_Me_seal_2 fl_Me_19 hw1.1 hw1.2 hf3 ?_
  refine ev_iconst 4 d_Me_seal_5 (by decide) ?_
  refine ev_isub d_Me_seal_6 ?_
  refine ev_iconst 4 d_Me_seal_7 (by decide) ?_
  refine ev_aload_n d_Me_seal_8 rfl rfl ?_
  exact ev_call (M' := m_Me_check) (As := [.ref a0]) (st := (.int 4 :: .int (n4 - 4) :: .ref a0 :: st)) d_Me_seal_9 i_Me_check (fun h => absurd h (by decide +kernel)) cw_Me_29 rfl rfl ⟨hw1.1, 8, _, _, hw1.2, rfl, rfl⟩ rfl (Nat.le_of_ble_eq_true rfl) h8 k
theorem t_Me_seal_12 {d : Nat} {st : List Value} {o0 : Option Value} {y0 : Int32} {y1 : Int32} {y2 : Int32} {b3 : Nat} {fsb : List Value} {w : qk_W} {nc ns : Nat} {Q : Option Value ⊕ Nat → qk_W → Nat → Nat → Prop}  (hb : wo w b3 8 fsb) (h8 : (st.map fun v => Value.category v).sum ≤ 8) (k : Ev d m_Me_put 0 [some (.ref b3), some (.int y2), some (.int y1), some (.int y0), none] [] w nc ns (fun r w1 nc1 ns1 => match r with | .inl v => Ev (d + 1) m_Me_seal 15 [o0] (v.toList ++ st) w1 nc1 ns1 Q | .inr x => Q (.inr x) w1 nc1 ns1)) : Ev (d + 1) m_Me_seal 12 [o0] (.int y0 :: .int y1 :: .int y2 :: .ref b3 :: st) w nc ns Q := by
  exact ev_call (M' := m_Me_put) (As := [.ref b3, .int y2, .int y1, .int y0]) (st := st) d_Me_seal_12 i_Me_put (fun h => absurd h (by decide +kernel)) cw_Me_33 rfl rfl ⟨hb.1, 8, _, _, hb.2, rfl, rfl⟩ rfl (Nat.le_of_ble_eq_true rfl) h8 k
theorem t_Me_seal_15 {d : Nat} {o0 : Option Value} {w : qk_W} {nc ns : Nat} {Q : Option Value ⊕ Nat → qk_W → Nat → Nat → Prop}   (hq : Q (.inl none) w nc ns) : Ev d m_Me_seal 15 [o0] [] w nc ns Q := by
  exact ev_vret d_Me_seal_15 rfl hq
/-! Me_check -/
theorem fs_Me_41 : Cond.fieldLinkNest "QuakeLink$Message" 41 "QuakeLink" "CHECK_STEPS" "[I" "QuakeLink" ∈ lw_tbl := (lw_i2 _ (List.mem_of_getElem? (i := 96) rfl))
theorem d_Me_check_0 : decode m_Me_check.2.1 0 = .ok (.iconst (-1), 1) := by decide +kernel
theorem d_Me_check_1 : decode m_Me_check.2.1 1 = .ok (.istore_n 1, 1) := by decide +kernel
theorem d_Me_check_2 : decode m_Me_check.2.1 2 = .ok (.iconst 0, 1) := by decide +kernel
theorem d_Me_check_3 : decode m_Me_check.2.1 3 = .ok (.istore_n 2, 1) := by decide +kernel
theorem d_Me_check_4 : decode m_Me_check.2.1 4 = .ok (.iload_n 2, 1) := by decide +kernel
theorem d_Me_check_5 : decode m_Me_check.2.1 5 = .ok (.aload_n 0, 1) := by decide +kernel
theorem d_Me_check_6 : decode m_Me_check.2.1 6 = .ok (.getfield 19, 3) := by decide +kernel
theorem d_Me_check_9 : decode m_Me_check.2.1 9 = .ok (.iconst 4, 1) := by decide +kernel
theorem d_Me_check_10 : decode m_Me_check.2.1 10 = .ok (.isub, 1) := by decide +kernel
theorem d_Me_check_11 : decode m_Me_check.2.1 11 = .ok (.if_icmp .ge 48, 3) := by decide +kernel
theorem d_Me_check_14 : decode m_Me_check.2.1 14 = .ok (.iload_n 1, 1) := by decide +kernel
theorem d_Me_check_15 : decode m_Me_check.2.1 15 = .ok (.aload_n 0, 1) := by decide +kernel
theorem d_Me_check_16 : decode m_Me_check.2.1 16 = .ok (.getfield 9, 3) := by decide +kernel
theorem d_Me_check_19 : decode m_Me_check.2.1 19 = .ok (.iload_n 2, 1) := by decide +kernel
theorem d_Me_check_20 : decode m_Me_check.2.1 20 = .ok (.baload, 1) := by decide +kernel
theorem d_Me_check_21 : decode m_Me_check.2.1 21 = .ok (.sipush 255, 3) := by decide +kernel
theorem d_Me_check_24 : decode m_Me_check.2.1 24 = .ok (.iand, 1) := by decide +kernel
theorem d_Me_check_25 : decode m_Me_check.2.1 25 = .ok (.ixor, 1) := by decide +kernel
theorem d_Me_check_26 : decode m_Me_check.2.1 26 = .ok (.istore_n 1, 1) := by decide +kernel
theorem d_Me_check_27 : decode m_Me_check.2.1 27 = .ok (.iload_n 1, 1) := by decide +kernel
theorem d_Me_check_28 : decode m_Me_check.2.1 28 = .ok (.iconst 4, 1) := by decide +kernel
theorem d_Me_check_29 : decode m_Me_check.2.1 29 = .ok (.iushr, 1) := by decide +kernel
theorem d_Me_check_30 : decode m_Me_check.2.1 30 = .ok (.getstatic 41, 3) := by decide +kernel
theorem d_Me_check_33 : decode m_Me_check.2.1 33 = .ok (.iload_n 1, 1) := by decide +kernel
theorem d_Me_check_34 : decode m_Me_check.2.1 34 = .ok (.bipush 15, 2) := by decide +kernel
theorem d_Me_check_36 : decode m_Me_check.2.1 36 = .ok (.iand, 1) := by decide +kernel
theorem d_Me_check_37 : decode m_Me_check.2.1 37 = .ok (.iaload, 1) := by decide +kernel
theorem d_Me_check_38 : decode m_Me_check.2.1 38 = .ok (.ixor, 1) := by decide +kernel
theorem d_Me_check_39 : decode m_Me_check.2.1 39 = .ok (.istore_n 1, 1) := by decide +kernel
theorem d_Me_check_40 : decode m_Me_check.2.1 40 = .ok (.iload_n 1, 1) := by decide +kernel
theorem d_Me_check_41 : decode m_Me_check.2.1 41 = .ok (.iconst 4, 1) := by decide +kernel
theorem d_Me_check_42 : decode m_Me_check.2.1 42 = .ok (.iushr, 1) := by decide +kernel
theorem d_Me_check_43 : decode m_Me_check.2.1 43 = .ok (.getstatic 41, 3) := by decide +kernel
theorem d_Me_check_46 : decode m_Me_check.2.1 46 = .ok (.iload_n 1, 1) := by decide +kernel
theorem d_Me_check_47 : decode m_Me_check.2.1 47 = .ok (.bipush 15, 2) := by decide +kernel
theorem d_Me_check_49 : decode m_Me_check.2.1 49 = .ok (.iand, 1) := by decide +kernel
theorem d_Me_check_50 : decode m_Me_check.2.1 50 = .ok (.iaload, 1) := by decide +kernel
theorem d_Me_check_51 : decode m_Me_check.2.1 51 = .ok (.ixor, 1) := by decide +kernel
theorem d_Me_check_52 : decode m_Me_check.2.1 52 = .ok (.istore_n 1, 1) := by decide +kernel
theorem d_Me_check_53 : decode m_Me_check.2.1 53 = .ok (.iinc 2 1, 3) := by decide +kernel
theorem d_Me_check_56 : decode m_Me_check.2.1 56 = .ok (.goto (-52), 3) := by decide +kernel
theorem d_Me_check_59 : decode m_Me_check.2.1 59 = .ok (.iload_n 1, 1) := by decide +kernel
theorem d_Me_check_60 : decode m_Me_check.2.1 60 = .ok (.iconst (-1), 1) := by decide +kernel
theorem d_Me_check_61 : decode m_Me_check.2.1 61 = .ok (.ixor, 1) := by decide +kernel
theorem d_Me_check_62 : decode m_Me_check.2.1 62 = .ok (.ireturn, 1) := by decide +kernel
theorem t_Me_check_0 {d : Nat} {st : List Value} {o0 : Option Value} {o1 : Option Value} {o2 : Option Value} {w : qk_W} {nc ns : Nat} {Q : Option Value ⊕ Nat → qk_W → Nat → Nat → Prop}  (hc1 : qk_c2 [o0, o1, o2] 1 = true) (k : Ev d m_Me_check 4 [o0, some (.int (-1)), some (.int 0)] st w nc ns Q) : Ev d m_Me_check 0 [o0, o1, o2] st w nc ns Q := by
  refine ev_iconst (-1) d_Me_check_0 (by decide) ?_
  refine ev_istore_n d_Me_check_1 (by decide) hc1 ?_
  refine ev_iconst 0 d_Me_check_2 (by decide) ?_
  refine ev_istore_n d_Me_check_3 (by decide) rfl ?_
  exact k
theorem t_Me_check_4 {d : Nat} {st : List Value} {a0 : Nat} {o1 : Option Value} {x2 : Int32} {fs2 : List Value} {n4 : Int32} {w : qk_W} {nc ns : Nat} {Q : Option Value ⊕ Nat → qk_W → Nat → Nat → Prop}  (hw1 : wo w a0 8 fs2) (hf3 : fs2[1]? = some (.int n4)) (kt : (n4 - 4) ≤ x2 → Ev d m_Me_check 59 [some (.ref a0), o1, some (.int x2)] st w nc ns Q) (kf : ¬ ((n4 - 4) ≤ x2) → Ev d m_Me_check 14 [some (.ref a0), o1, some (.int x2)] st w nc ns Q) : Ev d m_Me_check 4 [some (.ref a0), o1, some (.int x2)] st w nc ns Q := by
  refine ev_iload_n d_Me_check_4 rfl ?_
  refine ev_aload_n d_Me_check_5 rfl rfl ?_
  refine ev_getf d_Me_check_6 fl_Me_19 hw1.1 hw1.2 hf3 ?_
  refine ev_iconst 4 d_Me_check_9 (by decide) ?_
  refine ev_isub d_Me_check_10 ?_
  exact ev_icmp_ge 59 d_Me_check_11 (by decide) kt kf
theorem t_Me_check_14 {d : Nat} {st : List Value} {a0 : Nat} {x1 : Int32} {x2 : Int32} {fs2 : List Value} {c4 : Nat} {n6 : Nat} {f7 : Nat → Int32} {n10 : Nat} {f11 : Nat → Int32} {w : qk_W} {nc ns : Nat} {Q : Option Value ⊕ Nat → qk_W → Nat → Nat → Prop}  (hw1 : wo w a0 8 fs2) (hf3 : fs2[0]? = some (.ref c4)) (ha5 : wb w c4 n6 f7) (hi8 : vp_in x2 n6) (hs2 : w 2 ≠ none) (ha9 : wi w 2 n10 f11) (hi12 : vp_in ((x1 ^^^ ((f7 x2.toNatClampNeg) &&& 255)) &&& 15) n10) (hi13 : vp_in (((qi_ushr (x1 ^^^ ((f7 x2.toNatClampNeg) &&& 255)) 4) ^^^ (f11 ((x1 ^^^ ((f7 x2.toNatClampNeg) &&& 255)) &&& 15).toNatClampNeg)) &&& 15) n10) (k : Ev d m_Me_check 4 [some (.ref a0), some (.int ((qi_ushr ((qi_ushr (x1 ^^^ ((f7 x2.toNatClampNeg) &&& 255)) 4) ^^^ (f11 ((x1 ^^^ ((f7 x2.toNatClampNeg) &&& 255)) &&& 15).toNatClampNeg)) 4) ^^^ (f11 (((qi_ushr (x1 ^^^ ((f7 x2.toNatClampNeg) &&& 255)) 4) ^^^ (f11 ((x1 ^^^ ((f7 x2.toNatClampNeg) &&& 255)) &&& 15).toNatClampNeg)) &&& 15).toNatClampNeg))), some (.int (x2 + 1))] st w nc ns Q) : Ev d m_Me_check 14 [some (.ref a0), some (.int x1), some (.int x2)] st w nc ns Q := by
  refine ev_iload_n d_Me_check_14 rfl ?_
  refine ev_aload_n d_Me_check_15 rfl rfl ?_
  refine ev_getf d_Me_check_16 fl_Me_9 hw1.1 hw1.2 hf3 ?_
  refine ev_iload_n d_Me_check_19 rfl ?_
  refine ev_bald d_Me_check_20 ha5.1 ha5.2 hi8 ?_
  refine ev_sipush 255 d_Me_check_21 (by decide) ?_
  refine ev_iand d_Me_check_24 ?_
  refine ev_ixor d_Me_check_25 ?_
  refine ev_istore_n d_Me_check_26 (by decide) rfl ?_
  refine ev_iload_n d_Me_check_27 rfl ?_
  refine ev_iconst 4 d_Me_check_28 (by decide) ?_
  refine ev_iushr d_Me_check_29 ?_
  refine ev_gets d_Me_check_30 fs_Me_41 (Or.inr ⟨rfl, rfl⟩) hs2 ?_
  refine ev_iload_n d_Me_check_33 rfl ?_
  refine ev_bipush 15 d_Me_check_34 (by decide) ?_
  refine ev_iand d_Me_check_36 ?_
  refine ev_iald d_Me_check_37 ha9 hi12 ?_
  refine ev_ixor d_Me_check_38 ?_
  refine ev_istore_n d_Me_check_39 (by decide) rfl ?_
  refine ev_iload_n d_Me_check_40 rfl ?_
  refine ev_iconst 4 d_Me_check_41 (by decide) ?_
  refine ev_iushr d_Me_check_42 ?_
  refine ev_gets d_Me_check_43 fs_Me_41 (Or.inr ⟨rfl, rfl⟩) hs2 ?_
  refine ev_iload_n d_Me_check_46 rfl ?_
  refine ev_bipush 15 d_Me_check_47 (by decide) ?_
  refine ev_iand d_Me_check_49 ?_
  refine ev_iald d_Me_check_50 ha9 hi13 ?_
  refine ev_ixor d_Me_check_51 ?_
  refine ev_istore_n d_Me_check_52 (by decide) rfl ?_
  refine ev_iinc 1 d_Me_check_53 (by decide) rfl (by decide) rfl ?_
  refine ev_goto 4 d_Me_check_56 (by decide) ?_
  exact k
theorem t_Me_check_59 {d : Nat} {o0 : Option Value} {x1 : Int32} {o2 : Option Value} {w : qk_W} {nc ns : Nat} {Q : Option Value ⊕ Nat → qk_W → Nat → Nat → Prop}   (hq : Q (.inl (some (.int (x1 ^^^ (-1))))) w nc ns) : Ev d m_Me_check 59 [o0, some (.int x1), o2] [] w nc ns Q := by
  refine ev_iload_n d_Me_check_59 rfl ?_
  refine ev_iconst (-1) d_Me_check_60 (by decide) ?_
  refine ev_ixor d_Me_check_61 ?_
  exact ev_iret d_Me_check_62 rfl rfl hq
/-! Me_isSealed -/
theorem cw_Me_37 : qk_cw "QuakeLink$Message" m_Me_value.1 (.invokevirtual 37) := ⟨(lw_i3 _ (List.mem_of_getElem? (i := 141) rfl)), (lw_i3 _ (List.mem_of_getElem? (i := 142) rfl)), (lw_i3 _ (List.mem_of_getElem? (i := 143) rfl))⟩
theorem d_Me_isSealed_0 : decode m_Me_isSealed.2.1 0 = .ok (.aload_n 0, 1) := by decide +kernel
theorem d_Me_isSealed_1 : decode m_Me_isSealed.2.1 1 = .ok (.aload_n 0, 1) := by decide +kernel
theorem d_Me_isSealed_2 : decode m_Me_isSealed.2.1 2 = .ok (.getfield 19, 3) := by decide +kernel
theorem d_Me_isSealed_5 : decode m_Me_isSealed.2.1 5 = .ok (.iconst 4, 1) := by decide +kernel
theorem d_Me_isSealed_6 : decode m_Me_isSealed.2.1 6 = .ok (.isub, 1) := by decide +kernel
theorem d_Me_isSealed_7 : decode m_Me_isSealed.2.1 7 = .ok (.invokevirtual 37, 3) := by decide +kernel
theorem d_Me_isSealed_10 : decode m_Me_isSealed.2.1 10 = .ok (.aload_n 0, 1) := by decide +kernel
theorem d_Me_isSealed_11 : decode m_Me_isSealed.2.1 11 = .ok (.invokevirtual 29, 3) := by decide +kernel
theorem d_Me_isSealed_14 : decode m_Me_isSealed.2.1 14 = .ok (.if_icmp .ne 7, 3) := by decide +kernel
theorem d_Me_isSealed_17 : decode m_Me_isSealed.2.1 17 = .ok (.iconst 1, 1) := by decide +kernel
theorem d_Me_isSealed_18 : decode m_Me_isSealed.2.1 18 = .ok (.goto 4, 3) := by decide +kernel
theorem d_Me_isSealed_21 : decode m_Me_isSealed.2.1 21 = .ok (.iconst 0, 1) := by decide +kernel
theorem d_Me_isSealed_22 : decode m_Me_isSealed.2.1 22 = .ok (.ireturn, 1) := by decide +kernel
theorem t_Me_isSealed_0 {d : Nat} {st : List Value} {a0 : Nat} {fs2 : List Value} {n4 : Int32} {w : qk_W} {nc ns : Nat} {Q : Option Value ⊕ Nat → qk_W → Nat → Nat → Prop}  (hw1 : wo w a0 8 fs2) (hf3 : fs2[1]? = some (.int n4)) (h8 : (st.map fun v => Value.category v).sum ≤ 8) (k : Ev d m_Me_value 0 [some (.ref a0), some (.int (n4 - 4))] [] w nc ns (fun r w1 nc1 ns1 => match r with | .inl v => Ev (d + 1) m_Me_isSealed 10 [some (.ref a0)] (v.toList ++ st) w1 nc1 ns1 Q | .inr x => Q (.inr x) w1 nc1 ns1)) : Ev (d + 1) m_Me_isSealed 0 [some (.ref a0)] st w nc ns Q := by
  refine ev_aload_n d_Me_isSealed_0 rfl rfl ?_
  refine ev_aload_n d_Me_isSealed_1 rfl rfl ?_
  refine ev_getf d_Me_isSealed_2 fl_Me_19 hw1.1 hw1.2 hf3 ?_
  refine ev_iconst 4 d_Me_isSealed_5 (by decide) ?_
  refine ev_isub d_Me_isSealed_6 ?_
  exact ev_call (M' := m_Me_value) (As := [.ref a0, .int (n4 - 4)]) (st := st) d_Me_isSealed_7 i_Me_value (fun h => absurd h (by decide +kernel)) cw_Me_37 rfl rfl ⟨hw1.1, 8, _, _, hw1.2, rfl, rfl⟩ rfl (Nat.le_of_ble_eq_true rfl) h8 k
theorem t_Me_isSealed_10 {d : Nat} {st : List Value} {a0 : Nat} {fsb : List Value} {w : qk_W} {nc ns : Nat} {Q : Option Value ⊕ Nat → qk_W → Nat → Nat → Prop}  (hb : wo w a0 8 fsb) (h8 : (st.map fun v => Value.category v).sum ≤ 8) (k : Ev d m_Me_check 0 [some (.ref a0), none, none] [] w nc ns (fun r w1 nc1 ns1 => match r with | .inl v => Ev (d + 1) m_Me_isSealed 14 [some (.ref a0)] (v.toList ++ st) w1 nc1 ns1 Q | .inr x => Q (.inr x) w1 nc1 ns1)) : Ev (d + 1) m_Me_isSealed 10 [some (.ref a0)] st w nc ns Q := by
  refine ev_aload_n d_Me_isSealed_10 rfl rfl ?_
  exact ev_call (M' := m_Me_check) (As := [.ref a0]) (st := st) d_Me_isSealed_11 i_Me_check (fun h => absurd h (by decide +kernel)) cw_Me_29 rfl rfl ⟨hb.1, 8, _, _, hb.2, rfl, rfl⟩ rfl (Nat.le_of_ble_eq_true rfl) h8 k
theorem t_Me_isSealed_14 {d : Nat} {st : List Value} {o0 : Option Value} {y0 : Int32} {y1 : Int32} {w : qk_W} {nc ns : Nat} {Q : Option Value ⊕ Nat → qk_W → Nat → Nat → Prop}   (kt : ¬ y1 = y0 → Ev d m_Me_isSealed 21 [o0] st w nc ns Q) (kf : y1 = y0 → Ev d m_Me_isSealed 17 [o0] st w nc ns Q) : Ev d m_Me_isSealed 14 [o0] (.int y0 :: .int y1 :: st) w nc ns Q := by
  exact ev_icmp_ne 21 d_Me_isSealed_14 (by decide) kt kf
theorem t_Me_isSealed_17 {d : Nat} {o0 : Option Value} {w : qk_W} {nc ns : Nat} {Q : Option Value ⊕ Nat → qk_W → Nat → Nat → Prop}   (hq : Q (.inl (some (.int 1))) w nc ns) : Ev d m_Me_isSealed 17 [o0] [] w nc ns Q := by
  refine ev_iconst 1 d_Me_isSealed_17 (by decide) ?_
  refine ev_goto 22 d_Me_isSealed_18 (by decide) ?_
  exact ev_iret d_Me_isSealed_22 rfl rfl hq
theorem t_Me_isSealed_21 {d : Nat} {o0 : Option Value} {w : qk_W} {nc ns : Nat} {Q : Option Value ⊕ Nat → qk_W → Nat → Nat → Prop}   (hq : Q (.inl (some (.int 0))) w nc ns) : Ev d m_Me_isSealed 21 [o0] [] w nc ns Q := by
  refine ev_iconst 0 d_Me_isSealed_21 (by decide) ?_
  exact ev_iret d_Me_isSealed_22 rfl rfl hq
/-! Me_value -/
theorem cw_Me_15 : qk_cw "QuakeLink$Message" m_Me_number.1 (.invokevirtual 15) := ⟨(lw_i3 _ (List.mem_of_getElem? (i := 145) rfl)), (lw_i3 _ (List.mem_of_getElem? (i := 146) rfl)), (lw_i3 _ (List.mem_of_getElem? (i := 147) rfl))⟩
theorem d_Me_value_0 : decode m_Me_value.2.1 0 = .ok (.aload_n 0, 1) := by decide +kernel
theorem d_Me_value_1 : decode m_Me_value.2.1 1 = .ok (.iload_n 1, 1) := by decide +kernel
theorem d_Me_value_2 : decode m_Me_value.2.1 2 = .ok (.iconst 4, 1) := by decide +kernel
theorem d_Me_value_3 : decode m_Me_value.2.1 3 = .ok (.invokevirtual 15, 3) := by decide +kernel
theorem d_Me_value_6 : decode m_Me_value.2.1 6 = .ok (.l2i, 1) := by decide +kernel
theorem d_Me_value_7 : decode m_Me_value.2.1 7 = .ok (.ireturn, 1) := by decide +kernel
theorem t_Me_value_0 {d : Nat} {st : List Value} {a0 : Nat} {x1 : Int32} {fsb : List Value} {w : qk_W} {nc ns : Nat} {Q : Option Value ⊕ Nat → qk_W → Nat → Nat → Prop}  (hb : wo w a0 8 fsb) (h8 : (st.map fun v => Value.category v).sum ≤ 8) (k : Ev d m_Me_number 0 [some (.ref a0), some (.int x1), some (.int 4), none, none, none] [] w nc ns (fun r w1 nc1 ns1 => match r with | .inl v => Ev (d + 1) m_Me_value 6 [some (.ref a0), some (.int x1)] (v.toList ++ st) w1 nc1 ns1 Q | .inr x => Q (.inr x) w1 nc1 ns1)) : Ev (d + 1) m_Me_value 0 [some (.ref a0), some (.int x1)] st w nc ns Q := by
  refine ev_aload_n d_Me_value_0 rfl rfl ?_
  refine ev_iload_n d_Me_value_1 rfl ?_
  refine ev_iconst 4 d_Me_value_2 (by decide) ?_
  exact ev_call (M' := m_Me_number) (As := [.ref a0, .int x1, .int 4]) (st := st) d_Me_value_3 i_Me_number (fun h => absurd h (by decide +kernel)) cw_Me_15 rfl rfl ⟨hb.1, 8, _, _, hb.2, rfl, rfl⟩ rfl (Nat.le_of_ble_eq_true rfl) h8 k
theorem t_Me_value_6 {d : Nat} {o0 : Option Value} {o1 : Option Value} {y0 : Int64} {w : qk_W} {nc ns : Nat} {Q : Option Value ⊕ Nat → qk_W → Nat → Nat → Prop}   (hq : Q (.inl (some (.int (Int64.toInt32 y0)))) w nc ns) : Ev d m_Me_value 6 [o0, o1] [.long y0] w nc ns Q := by
  refine ev_l2i d_Me_value_6 ?_
  exact ev_iret d_Me_value_7 rfl rfl hq
/-! Me_number -/
theorem d_Me_number_0 : decode m_Me_number.2.1 0 = .ok (.lconst 0, 1) := by decide +kernel
theorem d_Me_number_1 : decode m_Me_number.2.1 1 = .ok (.lstore_n 3, 1) := by decide +kernel
theorem d_Me_number_2 : decode m_Me_number.2.1 2 = .ok (.iconst 0, 1) := by decide +kernel
theorem d_Me_number_3 : decode m_Me_number.2.1 3 = .ok (.istore 5, 2) := by decide +kernel
theorem d_Me_number_5 : decode m_Me_number.2.1 5 = .ok (.iload 5, 2) := by decide +kernel
theorem d_Me_number_7 : decode m_Me_number.2.1 7 = .ok (.iload_n 2, 1) := by decide +kernel
theorem d_Me_number_8 : decode m_Me_number.2.1 8 = .ok (.if_icmp .ge 29, 3) := by decide +kernel
theorem d_Me_number_11 : decode m_Me_number.2.1 11 = .ok (.lload_n 3, 1) := by decide +kernel
theorem d_Me_number_12 : decode m_Me_number.2.1 12 = .ok (.bipush 8, 2) := by decide +kernel
theorem d_Me_number_14 : decode m_Me_number.2.1 14 = .ok (.lshl, 1) := by decide +kernel
theorem d_Me_number_15 : decode m_Me_number.2.1 15 = .ok (.aload_n 0, 1) := by decide +kernel
theorem d_Me_number_16 : decode m_Me_number.2.1 16 = .ok (.getfield 9, 3) := by decide +kernel
theorem d_Me_number_19 : decode m_Me_number.2.1 19 = .ok (.iload_n 1, 1) := by decide +kernel
theorem d_Me_number_20 : decode m_Me_number.2.1 20 = .ok (.iload 5, 2) := by decide +kernel
theorem d_Me_number_22 : decode m_Me_number.2.1 22 = .ok (.iadd, 1) := by decide +kernel
theorem d_Me_number_23 : decode m_Me_number.2.1 23 = .ok (.baload, 1) := by decide +kernel
theorem d_Me_number_24 : decode m_Me_number.2.1 24 = .ok (.sipush 255, 3) := by decide +kernel
theorem d_Me_number_27 : decode m_Me_number.2.1 27 = .ok (.iand, 1) := by decide +kernel
theorem d_Me_number_28 : decode m_Me_number.2.1 28 = .ok (.i2l, 1) := by decide +kernel
theorem d_Me_number_29 : decode m_Me_number.2.1 29 = .ok (.lor, 1) := by decide +kernel
theorem d_Me_number_30 : decode m_Me_number.2.1 30 = .ok (.lstore_n 3, 1) := by decide +kernel
theorem d_Me_number_31 : decode m_Me_number.2.1 31 = .ok (.iinc 5 1, 3) := by decide +kernel
theorem d_Me_number_34 : decode m_Me_number.2.1 34 = .ok (.goto (-29), 3) := by decide +kernel
theorem d_Me_number_37 : decode m_Me_number.2.1 37 = .ok (.lload_n 3, 1) := by decide +kernel
theorem d_Me_number_38 : decode m_Me_number.2.1 38 = .ok (.lreturn, 1) := by decide +kernel
theorem t_Me_number_0 {d : Nat} {st : List Value} {o0 : Option Value} {o1 : Option Value} {o2 : Option Value} {o3 : Option Value} {o4 : Option Value} {o5 : Option Value} {w : qk_W} {nc ns : Nat} {Q : Option Value ⊕ Nat → qk_W → Nat → Nat → Prop}  (hc1 : qk_c2 [o0, o1, o2, o3, o4, o5] 3 = true) (k : Ev d m_Me_number 5 [o0, o1, o2, some (.long 0), none, some (.int 0)] st w nc ns Q) : Ev d m_Me_number 0 [o0, o1, o2, o3, o4, o5] st w nc ns Q := by
  refine ev_lconst 0 d_Me_number_0 (by decide) ?_
  refine ev_lstore_n d_Me_number_1 (by decide) hc1 ?_
  refine ev_iconst 0 d_Me_number_2 (by decide) ?_
  refine ev_istore d_Me_number_3 (by decide) rfl ?_
  exact k
theorem t_Me_number_5 {d : Nat} {st : List Value} {o0 : Option Value} {o1 : Option Value} {x2 : Int32} {o3 : Option Value} {o4 : Option Value} {x5 : Int32} {w : qk_W} {nc ns : Nat} {Q : Option Value ⊕ Nat → qk_W → Nat → Nat → Prop}   (kt : x2 ≤ x5 → Ev d m_Me_number 37 [o0, o1, some (.int x2), o3, o4, some (.int x5)] st w nc ns Q) (kf : ¬ (x2 ≤ x5) → Ev d m_Me_number 11 [o0, o1, some (.int x2), o3, o4, some (.int x5)] st w nc ns Q) : Ev d m_Me_number 5 [o0, o1, some (.int x2), o3, o4, some (.int x5)] st w nc ns Q := by
  refine ev_iload d_Me_number_5 rfl ?_
  refine ev_iload_n d_Me_number_7 rfl ?_
  exact ev_icmp_ge 37 d_Me_number_8 (by decide) kt kf
theorem t_Me_number_11 {d : Nat} {st : List Value} {a0 : Nat} {x1 : Int32} {o2 : Option Value} {x3 : Int64} {o4 : Option Value} {x5 : Int32} {fs2 : List Value} {c4 : Nat} {n6 : Nat} {f7 : Nat → Int32} {w : qk_W} {nc ns : Nat} {Q : Option Value ⊕ Nat → qk_W → Nat → Nat → Prop}  (hw1 : wo w a0 8 fs2) (hf3 : fs2[0]? = some (.ref c4)) (ha5 : wb w c4 n6 f7) (hi8 : vp_in (x1 + x5) n6) (hc9 : qk_c2 [some (.ref a0), some (.int x1), o2, some (.long x3), o4, some (.int x5)] 3 = true) (k : Ev d m_Me_number 5 [some (.ref a0), some (.int x1), o2, some (.long ((ql_shl x3 8) ||| (Int32.toInt64 ((f7 (x1 + x5).toNatClampNeg) &&& 255)))), none, some (.int (x5 + 1))] st w nc ns Q) : Ev d m_Me_number 11 [some (.ref a0), some (.int x1), o2, some (.long x3), o4, some (.int x5)] st w nc ns Q := by
  refine ev_lload_n d_Me_number_11 rfl ?_
  refine ev_bipush 8 d_Me_number_12 (by decide) ?_
  refine ev_lshl d_Me_number_14 ?_
  refine ev_aload_n d_Me_number_15 rfl rfl ?_
  refine ev_getf d_Me_number_16 fl_Me_9 hw1.1 hw1.2 hf3 ?_
  refine ev_iload_n d_Me_number_19 rfl ?_
  refine ev_iload d_Me_number_20 rfl ?_
  refine ev_iadd d_Me_number_22 ?_
  refine ev_bald d_Me_number_23 ha5.1 ha5.2 hi8 ?_
  refine ev_sipush 255 d_Me_number_24 (by decide) ?_
  refine ev_iand d_Me_number_27 ?_
  refine ev_i2l d_Me_number_28 ?_
  refine ev_lor d_Me_number_29 ?_
  refine ev_lstore_n d_Me_number_30 (by decide) hc9 ?_
  refine ev_iinc 1 d_Me_number_31 (by decide) rfl (by decide) rfl ?_
  refine ev_goto 5 d_Me_number_34 (by decide) ?_
  exact k
theorem t_Me_number_37 {d : Nat} {o0 : Option Value} {o1 : Option Value} {o2 : Option Value} {x3 : Int64} {o4 : Option Value} {o5 : Option Value} {w : qk_W} {nc ns : Nat} {Q : Option Value ⊕ Nat → qk_W → Nat → Nat → Prop}   (hq : Q (.inl (some (.long x3))) w nc ns) : Ev d m_Me_number 37 [o0, o1, o2, some (.long x3), o4, o5] [] w nc ns Q := by
  refine ev_lload_n d_Me_number_37 rfl ?_
  exact ev_lret d_Me_number_38 rfl hq
