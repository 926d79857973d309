/-! Pa_init -/
theorem ob_Pa_3 : Cond.methodLink "QuakeLink$Packet" 3 Lib.objectInit ∈ lw_tbl := (lw_i1 _ (List.mem_of_getElem? (i := 221) rfl))
theorem nl_Pa_9 : qk_nl "QuakeLink$Packet" 9 8 [.null, .int 0] := ⟨_, rfl, by decide, (lw_i1 _ (List.mem_of_getElem? (i := 222) rfl)), rfl, rfl⟩
theorem cw_Pa_11 : qk_cw "QuakeLink$Packet" m_Me_init.1 (.invokespecial 11) := ⟨rfl, Or.inr ⟨"QuakeLink", (lw_i1 _ (List.mem_of_getElem? (i := 224) rfl))⟩, (lw_i1 _ (List.mem_of_getElem? (i := 225) rfl))⟩
theorem fl_Pa_12 : qk_fl "QuakeLink$Packet" 12 7 0 := ⟨_, rfl, by decide, rfl, (lw_i2 _ (List.mem_of_getElem? (i := 7) rfl))⟩
theorem fl_Pa_18 : qk_fl "QuakeLink$Packet" 18 7 4 := ⟨_, rfl, by decide, rfl, (lw_i2 _ (List.mem_of_getElem? (i := 15) rfl))⟩
theorem d_Pa_init_0 : decode m_Pa_init.2.1 0 = .ok (.aload_n 0, 1) := by decide +kernel
theorem d_Pa_init_1 : decode m_Pa_init.2.1 1 = .ok (.invokespecial 3, 3) := by decide +kernel
theorem d_Pa_init_4 : decode m_Pa_init.2.1 4 = .ok (.aload_n 0, 1) := by decide +kernel
theorem d_Pa_init_5 : decode m_Pa_init.2.1 5 = .ok (.new 9, 3) := by decide +kernel
theorem d_Pa_init_8 : decode m_Pa_init.2.1 8 = .ok (.dup, 1) := by decide +kernel
theorem d_Pa_init_9 : decode m_Pa_init.2.1 9 = .ok (.invokespecial 11, 3) := by decide +kernel
theorem d_Pa_init_12 : decode m_Pa_init.2.1 12 = .ok (.putfield 12, 3) := by decide +kernel
theorem d_Pa_init_15 : decode m_Pa_init.2.1 15 = .ok (.aload_n 0, 1) := by decide +kernel
theorem d_Pa_init_16 : decode m_Pa_init.2.1 16 = .ok (.bipush 15, 2) := by decide +kernel
theorem d_Pa_init_18 : decode m_Pa_init.2.1 18 = .ok (.newarray .int, 2) := by decide +kernel
theorem d_Pa_init_20 : decode m_Pa_init.2.1 20 = .ok (.putfield 18, 3) := by decide +kernel
theorem d_Pa_init_23 : decode m_Pa_init.2.1 23 = .ok (.return_, 1) := by decide +kernel
theorem t_Pa_init_0 {d : Nat} {st : List Value} {a0 : Nat} {w : qk_W} {nc ns : Nat} {Q : Option Value ⊕ Nat → qk_W → Nat → Nat → Prop}  (h8 : (st.map fun v => Value.category v).sum ≤ 8) (k : Ev (d + 1) m_Pa_init 4 [some (.ref a0)] st w nc ns Q) : Ev (d + 1) m_Pa_init 0 [some (.ref a0)] st w nc ns Q := by
  refine ev_aload_n d_Pa_init_0 rfl rfl ?_
  exact ev_obj d_Pa_init_1 ob_Pa_3 ob_inst ob_code (by omega) h8 k
theorem t_Pa_init_4 {d : Nat} {st : List Value} {v0 : Value} {w : qk_W} {nc ns : Nat} {Q : Option Value ⊕ Nat → qk_W → Nat → Nat → Prop} (hv0 : qk_isr v0 = true) (v : Nat) (hv : 16 ≤ v) (hn : w v = none) (k : Ev d m_Pa_init 8 [some v0] (.ref v :: v0 :: st) (qk_set w v (.inr (8, [.null, .int 0]))) (nc + 1) (ns + 2) Q) : Ev d m_Pa_init 4 [some v0] st w nc ns Q := by
  refine ev_aload_n d_Pa_init_4 rfl hv0 ?_
  exact ev_new v d_Pa_init_5 nl_Pa_9 hv hn k
theorem t_Pa_init_8 {d : Nat} {st : List Value} {o0 : Option Value} {b0 : Nat} {w : qk_W} {nc ns : Nat} {Q : Option Value ⊕ Nat → qk_W → Nat → Nat → Prop}  (h8 : ((.ref b0 :: st).map fun v => Value.category v).sum ≤ 8) (k : Ev d m_Me_init 0 [some (.ref b0)] [] w nc ns (fun r w1 nc1 ns1 => match r with | .inl v => Ev (d + 1) m_Pa_init 12 [o0] (v.toList ++ (.ref b0 :: st)) w1 nc1 ns1 Q | .inr x => Q (.inr x) w1 nc1 ns1)) : Ev (d + 1) m_Pa_init 8 [o0] (.ref b0 :: st) w nc ns Q := by
  refine ev_dup d_Pa_init_8 rfl ?_
  exact ev_call (M' := m_Me_init) (As := [.ref b0]) (st := (.ref b0 :: st)) d_Pa_init_9 i_Me_init ii_Me_init cw_Pa_11 rfl rfl trivial rfl (Nat.le_of_ble_eq_true rfl) h8 k
theorem t_Pa_init_12 {d : Nat} {st : List Value} {o0 : Option Value} {s0 : Value} {b1 : Nat} {fs2 : List Value} {w : qk_W} {nc ns : Nat} {Q : Option Value ⊕ Nat → qk_W → Nat → Nat → Prop} (hs0 : qk_isr s0 = true) (hw1 : wo w b1 7 fs2) (hk : 0 < fs2.length) (hz : qk_fit (qk_fty 7 0) s0 = true) (k : Ev d m_Pa_init 15 [o0] st (qk_set w b1 (.inr (7, fs2.set 0 (s0)))) nc ns Q) : Ev d m_Pa_init 12 [o0] (s0 :: .ref b1 :: st) w nc ns Q := by
  exact ev_putF d_Pa_init_12 fl_Pa_12 rfl rfl rfl hw1.1 hw1.2 hk hz k
theorem t_Pa_init_15 {d : Nat} {st : List Value} {v0 : Value} {w : qk_W} {nc ns : Nat} {Q : Option Value ⊕ Nat → qk_W → Nat → Nat → Prop} (hv0 : qk_isr v0 = true) (v : Nat) (hv : 16 ≤ v) (hn : w v = none) (k : Ev d m_Pa_init 20 [some v0] (.ref v :: v0 :: st) (qk_set w v (.inl (.int, (15, .inl (fun _ => 0))))) (nc + 1) (ns + 15) Q) : Ev d m_Pa_init 15 [some v0] st w nc ns Q := by
  refine ev_aload_n d_Pa_init_15 rfl hv0 ?_
  refine ev_bipush 15 d_Pa_init_16 (by decide) ?_
  exact ev_newa v (15, .inl (fun _ => 0)) d_Pa_init_18 rfl (by decide) (lw_i1 _ (List.mem_of_getElem? (i := 57) rfl)) (fun C h => by cases h) (fun cA => rfl) (fun ρ => rfl) (fun w => trivial) (by decide) (by decide) (by decide) hv hn k
theorem t_Pa_init_20 {d : Nat} {st : List Value} {o0 : Option Value} {s0 : Value} {b1 : Nat} {fs2 : List Value} {w : qk_W} {nc ns : Nat} {Q : Option Value ⊕ Nat → qk_W → Nat → Nat → Prop} (hs0 : qk_isr s0 = true) (hw1 : wo w b1 7 fs2) (hk : 4 < fs2.length) (hz : qk_fit (qk_fty 7 4) s0 = true) (k : Ev d m_Pa_init 23 [o0] st (qk_set w b1 (.inr (7, fs2.set 4 (s0)))) nc ns Q) : Ev d m_Pa_init 20 [o0] (s0 :: .ref b1 :: st) w nc ns Q := by
  exact ev_putF d_Pa_init_20 fl_Pa_18 rfl rfl rfl hw1.1 hw1.2 hk hz k
theorem t_Pa_init_23 {d : Nat} {o0 : Option Value} {w : qk_W} {nc ns : Nat} {Q : Option Value ⊕ Nat → qk_W → Nat → Nat → Prop}   (hq : Q (.inl none) w nc ns) : Ev d m_Pa_init 23 [o0] [] w nc ns Q := by
  exact ev_vret d_Pa_init_23 rfl hq
/-! Pa_fits -/
theorem fs_Pa_48 : Cond.fieldLinkNest "QuakeLink$Packet" 48 "QuakeLink" "WIDTHS" "[I" "QuakeLink" ∈ lw_tbl := (lw_i3 _ (List.mem_of_getElem? (i := 27) rfl))
theorem fl_Pa_38 : qk_fl "QuakeLink$Packet" 38 7 8 := ⟨_, rfl, by decide, rfl, (lw_i2 _ (List.mem_of_getElem? (i := 19) rfl))⟩
theorem fl_Pa_41 : qk_fl "QuakeLink$Packet" 41 7 9 := ⟨_, rfl, by decide, rfl, (lw_i2 _ (List.mem_of_getElem? (i := 20) rfl))⟩
theorem cw_Pa_51 : qk_cw "QuakeLink$Packet" m_Pa_codeWith.1 (.invokevirtual 51) := ⟨(lw_i3 _ (List.mem_of_getElem? (i := 29) rfl)), (lw_i3 _ (List.mem_of_getElem? (i := 31) rfl)), (lw_i0 _ (List.mem_of_getElem? (i := 11) rfl))⟩
theorem fl_Pa_35 : qk_fl "QuakeLink$Packet" 35 7 7 := ⟨_, rfl, by decide, rfl, (lw_i2 _ (List.mem_of_getElem? (i := 18) rfl))⟩
theorem fl_Pa_29 : qk_fl "QuakeLink$Packet" 29 7 5 := ⟨_, rfl, by decide, rfl, (lw_i2 _ (List.mem_of_getElem? (i := 16) rfl))⟩
theorem cw_Pa_55 : qk_cw "QuakeLink$Packet" m_Pa_sizeFor.1 (.invokestatic 55) := ⟨Or.inl (lw_i3 _ (List.mem_of_getElem? (i := 36) rfl)), (lw_i3 _ (List.mem_of_getElem? (i := 37) rfl))⟩
theorem d_Pa_fits_0 : decode m_Pa_fits.2.1 0 = .ok (.getstatic 48, 3) := by decide +kernel
theorem d_Pa_fits_3 : decode m_Pa_fits.2.1 3 = .ok (.aload_n 0, 1) := by decide +kernel
theorem d_Pa_fits_4 : decode m_Pa_fits.2.1 4 = .ok (.iload_n 1, 1) := by decide +kernel
theorem d_Pa_fits_5 : decode m_Pa_fits.2.1 5 = .ok (.aload_n 0, 1) := by decide +kernel
theorem d_Pa_fits_6 : decode m_Pa_fits.2.1 6 = .ok (.getfield 38, 3) := by decide +kernel
theorem d_Pa_fits_9 : decode m_Pa_fits.2.1 9 = .ok (.isub, 1) := by decide +kernel
theorem d_Pa_fits_10 : decode m_Pa_fits.2.1 10 = .ok (.aload_n 0, 1) := by decide +kernel
theorem d_Pa_fits_11 : decode m_Pa_fits.2.1 11 = .ok (.getfield 41, 3) := by decide +kernel
theorem d_Pa_fits_14 : decode m_Pa_fits.2.1 14 = .ok (.isub, 1) := by decide +kernel
theorem d_Pa_fits_15 : decode m_Pa_fits.2.1 15 = .ok (.invokevirtual 51, 3) := by decide +kernel
theorem d_Pa_fits_18 : decode m_Pa_fits.2.1 18 = .ok (.iaload, 1) := by decide +kernel
theorem d_Pa_fits_19 : decode m_Pa_fits.2.1 19 = .ok (.istore_n 2, 1) := by decide +kernel
theorem d_Pa_fits_20 : decode m_Pa_fits.2.1 20 = .ok (.aload_n 0, 1) := by decide +kernel
theorem d_Pa_fits_21 : decode m_Pa_fits.2.1 21 = .ok (.getfield 35, 3) := by decide +kernel
theorem d_Pa_fits_24 : decode m_Pa_fits.2.1 24 = .ok (.iconst 4, 1) := by decide +kernel
theorem d_Pa_fits_25 : decode m_Pa_fits.2.1 25 = .ok (.iadd, 1) := by decide +kernel
theorem d_Pa_fits_26 : decode m_Pa_fits.2.1 26 = .ok (.aload_n 0, 1) := by decide +kernel
theorem d_Pa_fits_27 : decode m_Pa_fits.2.1 27 = .ok (.getfield 29, 3) := by decide +kernel
theorem d_Pa_fits_30 : decode m_Pa_fits.2.1 30 = .ok (.iconst 1, 1) := by decide +kernel
theorem d_Pa_fits_31 : decode m_Pa_fits.2.1 31 = .ok (.iadd, 1) := by decide +kernel
theorem d_Pa_fits_32 : decode m_Pa_fits.2.1 32 = .ok (.iload_n 2, 1) := by decide +kernel
theorem d_Pa_fits_33 : decode m_Pa_fits.2.1 33 = .ok (.imul, 1) := by decide +kernel
theorem d_Pa_fits_34 : decode m_Pa_fits.2.1 34 = .ok (.iadd, 1) := by decide +kernel
theorem d_Pa_fits_35 : decode m_Pa_fits.2.1 35 = .ok (.invokestatic 55, 3) := by decide +kernel
theorem d_Pa_fits_38 : decode m_Pa_fits.2.1 38 = .ok (.sipush 512, 3) := by decide +kernel
theorem d_Pa_fits_41 : decode m_Pa_fits.2.1 41 = .ok (.if_icmp .gt 7, 3) := by decide +kernel
theorem d_Pa_fits_44 : decode m_Pa_fits.2.1 44 = .ok (.iconst 1, 1) := by decide +kernel
theorem d_Pa_fits_45 : decode m_Pa_fits.2.1 45 = .ok (.goto 4, 3) := by decide +kernel
theorem d_Pa_fits_48 : decode m_Pa_fits.2.1 48 = .ok (.iconst 0, 1) := by decide +kernel
theorem d_Pa_fits_49 : decode m_Pa_fits.2.1 49 = .ok (.ireturn, 1) := by decide +kernel
theorem t_Pa_fits_0 {d : Nat} {st : List Value} {a0 : Nat} {x1 : Int32} {o2 : Option Value} {fs2 : List Value} {n4 : Int32} {n8 : Int32} {w : qk_W} {nc ns : Nat} {Q : Option Value ⊕ Nat → qk_W → Nat → Nat → Prop}  (hs1 : w 1 ≠ none) (hw1 : wo w a0 7 fs2) (hf3 : fs2[8]? = some (.int n4)) (hf7 : fs2[9]? = some (.int n8)) (h8 : ((.ref 1 :: st).map fun v => Value.category v).sum ≤ 8) (k : Ev d m_Pa_codeWith 0 [some (.ref a0), some (.int ((x1 - n4) - n8)), none] [] w nc ns (fun r w1 nc1 ns1 => match r with | .inl v => Ev (d + 1) m_Pa_fits 18 [some (.ref a0), some (.int x1), o2] (v.toList ++ (.ref 1 :: st)) w1 nc1 ns1 Q | .inr x => Q (.inr x) w1 nc1 ns1)) : Ev (d + 1) m_Pa_fits 0 [some (.ref a0), some (.int x1), o2] st w nc ns Q := by
  refine ev_gets d_Pa_fits_0 fs_Pa_48 (Or.inl ⟨rfl, rfl⟩) hs1 ?_
  refine ev_aload_n d_Pa_fits_3 rfl rfl ?_
  refine ev_iload_n d_Pa_fits_4 rfl ?_
  refine ev_aload_n d_Pa_fits_5 rfl rfl ?_
  refine ev_getf d_Pa_fits_6 fl_Pa_38 hw1.1 hw1.2 hf3 ?_
  refine ev_isub d_Pa_fits_9 ?_
  refine ev_aload_n d_Pa_fits_10 rfl rfl ?_
  refine ev_getf d_Pa_fits_11 fl_Pa_41 hw1.1 hw1.2 hf7 ?_
  refine ev_isub d_Pa_fits_14 ?_
  exact ev_call (M' := m_Pa_codeWith) (As := [.ref a0, .int ((x1 - n4) - n8)]) (st := (.ref 1 :: st)) d_Pa_fits_15 i_Pa_codeWith (fun h => absurd h (by decide +kernel)) cw_Pa_51 rfl rfl ⟨hw1.1, 7, _, _, hw1.2, rfl, rfl⟩ rfl (Nat.le_of_ble_eq_true rfl) h8 k
theorem t_Pa_fits_18 {d : Nat} {st : List Value} {a0 : Nat} {o1 : Option Value} {o2 : Option Value} {y0 : Int32} {b1 : Nat} {n2 : Nat} {f3 : Nat → Int32} {fs7 : List Value} {n9 : Int32} {n13 : Int32} {w : qk_W} {nc ns : Nat} {Q : Option Value ⊕ Nat → qk_W → Nat → Nat → Prop}  (ha1 : wi w b1 n2 f3) (hi4 : vp_in y0 n2) (hc5 : qk_c2 [some (.ref a0), o1, o2] 2 = true) (hw6 : wo w a0 7 fs7) (hf8 : fs7[7]? = some (.int n9)) (hf12 : fs7[5]? = some (.int n13)) (h8 : (st.map fun v => Value.category v).sum ≤ 8) (k : Ev d m_Pa_sizeFor 0 [some (.int ((n9 + 4) + ((n13 + 1) * (f3 y0.toNatClampNeg))))] [] w nc ns (fun r w1 nc1 ns1 => match r with | .inl v => Ev (d + 1) m_Pa_fits 38 [some (.ref a0), o1, some (.int (f3 y0.toNatClampNeg))] (v.toList ++ st) w1 nc1 ns1 Q | .inr x => Q (.inr x) w1 nc1 ns1)) : Ev (d + 1) m_Pa_fits 18 [some (.ref a0), o1, o2] (.int y0 :: .ref b1 :: st) w nc ns Q := by
  refine ev_iald d_Pa_fits_18 ha1 hi4 ?_
  refine ev_istore_n d_Pa_fits_19 (by decide) hc5 ?_
  refine ev_aload_n d_Pa_fits_20 rfl rfl ?_
  refine ev_getf d_Pa_fits_21 fl_Pa_35 hw6.1 hw6.2 hf8 ?_
  refine ev_iconst 4 d_Pa_fits_24 (by decide) ?_
  refine ev_iadd d_Pa_fits_25 ?_
  refine ev_aload_n d_Pa_fits_26 rfl rfl ?_
  refine ev_getf d_Pa_fits_27 fl_Pa_29 hw6.1 hw6.2 hf12 ?_
  refine ev_iconst 1 d_Pa_fits_30 (by decide) ?_
  refine ev_iadd d_Pa_fits_31 ?_
  refine ev_iload_n d_Pa_fits_32 rfl ?_
  refine ev_imul d_Pa_fits_33 ?_
  refine ev_iadd d_Pa_fits_34 ?_
  exact ev_call (M' := m_Pa_sizeFor) (As := [.int ((n9 + 4) + ((n13 + 1) * (f3 y0.toNatClampNeg)))]) (st := st) d_Pa_fits_35 i_Pa_sizeFor (fun h => absurd h (by decide +kernel)) cw_Pa_55 rfl rfl trivial rfl (Nat.le_of_ble_eq_true rfl) h8 k
theorem t_Pa_fits_38 {d : Nat} {st : List Value} {o0 : Option Value} {o1 : Option Value} {o2 : Option Value} {y0 : Int32} {w : qk_W} {nc ns : Nat} {Q : Option Value ⊕ Nat → qk_W → Nat → Nat → Prop}   (kt : (512 : Int32) < y0 → Ev d m_Pa_fits 48 [o0, o1, o2] st w nc ns Q) (kf : ¬ ((512 : Int32) < y0) → Ev d m_Pa_fits 44 [o0, o1, o2] st w nc ns Q) : Ev d m_Pa_fits 38 [o0, o1, o2] (.int y0 :: st) w nc ns Q := by
  refine ev_sipush 512 d_Pa_fits_38 (by decide) ?_
  exact ev_icmp_gt 48 d_Pa_fits_41 (by decide) kt kf
theorem t_Pa_fits_44 {d : Nat} {o0 : Option Value} {o1 : Option Value} {o2 : Option Value} {w : qk_W} {nc ns : Nat} {Q : Option Value ⊕ Nat → qk_W → Nat → Nat → Prop}   (hq : Q (.inl (some (.int 1))) w nc ns) : Ev d m_Pa_fits 44 [o0, o1, o2] [] w nc ns Q := by
  refine ev_iconst 1 d_Pa_fits_44 (by decide) ?_
  refine ev_goto 49 d_Pa_fits_45 (by decide) ?_
  exact ev_iret d_Pa_fits_49 rfl rfl hq
theorem t_Pa_fits_48 {d : Nat} {o0 : Option Value} {o1 : Option Value} {o2 : Option Value} {w : qk_W} {nc ns : Nat} {Q : Option Value ⊕ Nat → qk_W → Nat → Nat → Prop}   (hq : Q (.inl (some (.int 0))) w nc ns) : Ev d m_Pa_fits 48 [o0, o1, o2] [] w nc ns Q := by
  refine ev_iconst 0 d_Pa_fits_48 (by decide) ?_
  exact ev_iret d_Pa_fits_49 rfl rfl hq
/-! Pa_codeWith -/
theorem fl_Pa_32 : qk_fl "QuakeLink$Packet" 32 7 6 := ⟨_, rfl, by decide, rfl, (lw_i2 _ (List.mem_of_getElem? (i := 17) rfl))⟩
theorem cw_Pa_67 : qk_cw "QuakeLink$Packet" m_Pa_fitsIn.1 (.invokestatic 67) := ⟨Or.inl (lw_i3 _ (List.mem_of_getElem? (i := 33) rfl)), (lw_i3 _ (List.mem_of_getElem? (i := 34) rfl))⟩
theorem d_Pa_codeWith_0 : decode m_Pa_codeWith.2.1 0 = .ok (.aload_n 0, 1) := by decide +kernel
theorem d_Pa_codeWith_1 : decode m_Pa_codeWith.2.1 1 = .ok (.getfield 32, 3) := by decide +kernel
theorem d_Pa_codeWith_4 : decode m_Pa_codeWith.2.1 4 = .ok (.istore_n 2, 1) := by decide +kernel
theorem d_Pa_codeWith_5 : decode m_Pa_codeWith.2.1 5 = .ok (.iload_n 2, 1) := by decide +kernel
theorem d_Pa_codeWith_6 : decode m_Pa_codeWith.2.1 6 = .ok (.bipush 9, 2) := by decide +kernel
theorem d_Pa_codeWith_8 : decode m_Pa_codeWith.2.1 8 = .ok (.if_icmp .ge 21, 3) := by decide +kernel
theorem d_Pa_codeWith_11 : decode m_Pa_codeWith.2.1 11 = .ok (.iload_n 1, 1) := by decide +kernel
theorem d_Pa_codeWith_12 : decode m_Pa_codeWith.2.1 12 = .ok (.getstatic 48, 3) := by decide +kernel
theorem d_Pa_codeWith_15 : decode m_Pa_codeWith.2.1 15 = .ok (.iload_n 2, 1) := by decide +kernel
theorem d_Pa_codeWith_16 : decode m_Pa_codeWith.2.1 16 = .ok (.iaload, 1) := by decide +kernel
theorem d_Pa_codeWith_17 : decode m_Pa_codeWith.2.1 17 = .ok (.invokestatic 67, 3) := by decide +kernel
theorem d_Pa_codeWith_20 : decode m_Pa_codeWith.2.1 20 = .ok (.ifCond .ne 9, 3) := by decide +kernel
theorem d_Pa_codeWith_23 : decode m_Pa_codeWith.2.1 23 = .ok (.iinc 2 1, 3) := by decide +kernel
theorem d_Pa_codeWith_26 : decode m_Pa_codeWith.2.1 26 = .ok (.goto (-21), 3) := by decide +kernel
theorem d_Pa_codeWith_29 : decode m_Pa_codeWith.2.1 29 = .ok (.iload_n 2, 1) := by decide +kernel
theorem d_Pa_codeWith_30 : decode m_Pa_codeWith.2.1 30 = .ok (.ireturn, 1) := by decide +kernel
theorem t_Pa_codeWith_0 {d : Nat} {st : List Value} {a0 : Nat} {o1 : Option Value} {o2 : Option Value} {fs2 : List Value} {n4 : Int32} {w : qk_W} {nc ns : Nat} {Q : Option Value ⊕ Nat → qk_W → Nat → Nat → Prop}  (hw1 : wo w a0 7 fs2) (hf3 : fs2[6]? = some (.int n4)) (hc5 : qk_c2 [some (.ref a0), o1, o2] 2 = true) (k : Ev d m_Pa_codeWith 5 [some (.ref a0), o1, some (.int n4)] st w nc ns Q) : Ev d m_Pa_codeWith 0 [some (.ref a0), o1, o2] st w nc ns Q := by
  refine ev_aload_n d_Pa_codeWith_0 rfl rfl ?_
  refine ev_getf d_Pa_codeWith_1 fl_Pa_32 hw1.1 hw1.2 hf3 ?_
  refine ev_istore_n d_Pa_codeWith_4 (by decide) hc5 ?_
  exact k
theorem t_Pa_codeWith_5 {d : Nat} {st : List Value} {o0 : Option Value} {o1 : Option Value} {x2 : Int32} {w : qk_W} {nc ns : Nat} {Q : Option Value ⊕ Nat → qk_W → Nat → Nat → Prop}   (kt : (9 : Int32) ≤ x2 → Ev d m_Pa_codeWith 29 [o0, o1, some (.int x2)] st w nc ns Q) (kf : ¬ ((9 : Int32) ≤ x2) → Ev d m_Pa_codeWith 11 [o0, o1, some (.int x2)] st w nc ns Q) : Ev d m_Pa_codeWith 5 [o0, o1, some (.int x2)] st w nc ns Q := by
  refine ev_iload_n d_Pa_codeWith_5 rfl ?_
  refine ev_bipush 9 d_Pa_codeWith_6 (by decide) ?_
  exact ev_icmp_ge 29 d_Pa_codeWith_8 (by decide) kt kf
theorem t_Pa_codeWith_11 {d : Nat} {st : List Value} {o0 : Option Value} {x1 : Int32} {x2 : Int32} {n2 : Nat} {f3 : Nat → Int32} {w : qk_W} {nc ns : Nat} {Q : Option Value ⊕ Nat → qk_W → Nat → Nat → Prop}  (hs1 : w 1 ≠ none) (ha1 : wi w 1 n2 f3) (hi4 : vp_in x2 n2) (h8 : (st.map fun v => Value.category v).sum ≤ 8) (k : Ev d m_Pa_fitsIn 0 [some (.int x1), some (.int (f3 x2.toNatClampNeg))] [] w nc ns (fun r w1 nc1 ns1 => match r with | .inl v => Ev (d + 1) m_Pa_codeWith 20 [o0, some (.int x1), some (.int x2)] (v.toList ++ st) w1 nc1 ns1 Q | .inr x => Q (.inr x) w1 nc1 ns1)) : Ev (d + 1) m_Pa_codeWith 11 [o0, some (.int x1), some (.int x2)] st w nc ns Q := by
  refine ev_iload_n d_Pa_codeWith_11 rfl ?_
  refine ev_gets d_Pa_codeWith_12 fs_Pa_48 (Or.inl ⟨rfl, rfl⟩) hs1 ?_
  refine ev_iload_n d_Pa_codeWith_15 rfl ?_
  refine ev_iald d_Pa_codeWith_16 ha1 hi4 ?_
  exact ev_call (M' := m_Pa_fitsIn) (As := [.int x1, .int (f3 x2.toNatClampNeg)]) (st := st) d_Pa_codeWith_17 i_Pa_fitsIn (fun h => absurd h (by decide +kernel)) cw_Pa_67 rfl rfl trivial rfl (Nat.le_of_ble_eq_true rfl) h8 k
theorem t_Pa_codeWith_20 {d : Nat} {st : List Value} {o0 : Option Value} {o1 : Option Value} {o2 : Option Value} {y0 : Int32} {w : qk_W} {nc ns : Nat} {Q : Option Value ⊕ Nat → qk_W → Nat → Nat → Prop}   (kt : ¬ y0 = 0 → Ev d m_Pa_codeWith 29 [o0, o1, o2] st w nc ns Q) (kf : y0 = 0 → Ev d m_Pa_codeWith 23 [o0, o1, o2] st w nc ns Q) : Ev d m_Pa_codeWith 20 [o0, o1, o2] (.int y0 :: st) w nc ns Q := by
  exact ev_if_ne 29 d_Pa_codeWith_20 (by decide) kt kf
theorem t_Pa_codeWith_23 {d : Nat} {st : List Value} {o0 : Option Value} {o1 : Option Value} {x2 : Int32} {w : qk_W} {nc ns : Nat} {Q : Option Value ⊕ Nat → qk_W → Nat → Nat → Prop}  (hc1 : qk_c2 [o0, o1, some (.int x2)] 2 = true) (k : Ev d m_Pa_codeWith 5 [o0, o1, some (.int (x2 + 1))] st w nc ns Q) : Ev d m_Pa_codeWith 23 [o0, o1, some (.int x2)] st w nc ns Q := by
  refine ev_iinc 1 d_Pa_codeWith_23 (by decide) rfl (by decide) hc1 ?_
  refine ev_goto 5 d_Pa_codeWith_26 (by decide) ?_
  exact k
theorem t_Pa_codeWith_29 {d : Nat} {o0 : Option Value} {o1 : Option Value} {x2 : Int32} {w : qk_W} {nc ns : Nat} {Q : Option Value ⊕ Nat → qk_W → Nat → Nat → Prop}   (hq : Q (.inl (some (.int x2))) w nc ns) : Ev d m_Pa_codeWith 29 [o0, o1, some (.int x2)] [] w nc ns Q := by
  refine ev_iload_n d_Pa_codeWith_29 rfl ?_
  exact ev_iret d_Pa_codeWith_30 rfl rfl hq
/-! Pa_fitsIn -/
theorem d_Pa_fitsIn_0 : decode m_Pa_fitsIn.2.1 0 = .ok (.iload_n 1, 1) := by decide +kernel
theorem d_Pa_fitsIn_1 : decode m_Pa_fitsIn.2.1 1 = .ok (.ifCond .ne 15, 3) := by decide +kernel
theorem d_Pa_fitsIn_4 : decode m_Pa_fitsIn.2.1 4 = .ok (.iload_n 0, 1) := by decide +kernel
theorem d_Pa_fitsIn_5 : decode m_Pa_fitsIn.2.1 5 = .ok (.ifCond .ne 7, 3) := by decide +kernel
theorem d_Pa_fitsIn_8 : decode m_Pa_fitsIn.2.1 8 = .ok (.iconst 1, 1) := by decide +kernel
theorem d_Pa_fitsIn_9 : decode m_Pa_fitsIn.2.1 9 = .ok (.goto 24, 3) := by decide +kernel
theorem d_Pa_fitsIn_12 : decode m_Pa_fitsIn.2.1 12 = .ok (.iconst 0, 1) := by decide +kernel
theorem d_Pa_fitsIn_13 : decode m_Pa_fitsIn.2.1 13 = .ok (.goto 20, 3) := by decide +kernel
theorem d_Pa_fitsIn_16 : decode m_Pa_fitsIn.2.1 16 = .ok (.iload_n 0, 1) := by decide +kernel
theorem d_Pa_fitsIn_17 : decode m_Pa_fitsIn.2.1 17 = .ok (.iload_n 1, 1) := by decide +kernel
theorem d_Pa_fitsIn_18 : decode m_Pa_fitsIn.2.1 18 = .ok (.iconst 1, 1) := by decide +kernel
theorem d_Pa_fitsIn_19 : decode m_Pa_fitsIn.2.1 19 = .ok (.isub, 1) := by decide +kernel
theorem d_Pa_fitsIn_20 : decode m_Pa_fitsIn.2.1 20 = .ok (.ishr, 1) := by decide +kernel
theorem d_Pa_fitsIn_21 : decode m_Pa_fitsIn.2.1 21 = .ok (.iload_n 0, 1) := by decide +kernel
theorem d_Pa_fitsIn_22 : decode m_Pa_fitsIn.2.1 22 = .ok (.bipush 31, 2) := by decide +kernel
theorem d_Pa_fitsIn_24 : decode m_Pa_fitsIn.2.1 24 = .ok (.ishr, 1) := by decide +kernel
theorem d_Pa_fitsIn_25 : decode m_Pa_fitsIn.2.1 25 = .ok (.if_icmp .ne 7, 3) := by decide +kernel
theorem d_Pa_fitsIn_28 : decode m_Pa_fitsIn.2.1 28 = .ok (.iconst 1, 1) := by decide +kernel
theorem d_Pa_fitsIn_29 : decode m_Pa_fitsIn.2.1 29 = .ok (.goto 4, 3) := by decide +kernel
theorem d_Pa_fitsIn_32 : decode m_Pa_fitsIn.2.1 32 = .ok (.iconst 0, 1) := by decide +kernel
theorem d_Pa_fitsIn_33 : decode m_Pa_fitsIn.2.1 33 = .ok (.ireturn, 1) := by decide +kernel
theorem t_Pa_fitsIn_0 {d : Nat} {st : List Value} {o0 : Option Value} {x1 : Int32} {w : qk_W} {nc ns : Nat} {Q : Option Value ⊕ Nat → qk_W → Nat → Nat → Prop}   (kt : ¬ x1 = 0 → Ev d m_Pa_fitsIn 16 [o0, some (.int x1)] st w nc ns Q) (kf : x1 = 0 → Ev d m_Pa_fitsIn 4 [o0, some (.int x1)] st w nc ns Q) : Ev d m_Pa_fitsIn 0 [o0, some (.int x1)] st w nc ns Q := by
  refine ev_iload_n d_Pa_fitsIn_0 rfl ?_
  exact ev_if_ne 16 d_Pa_fitsIn_1 (by decide) kt kf
theorem t_Pa_fitsIn_4 {d : Nat} {st : List Value} {x0 : Int32} {o1 : Option Value} {w : qk_W} {nc ns : Nat} {Q : Option Value ⊕ Nat → qk_W → Nat → Nat → Prop}   (kt : ¬ x0 = 0 → Ev d m_Pa_fitsIn 12 [some (.int x0), o1] st w nc ns Q) (kf : x0 = 0 → Ev d m_Pa_fitsIn 8 [some (.int x0), o1] st w nc ns Q) : Ev d m_Pa_fitsIn 4 [some (.int x0), o1] st w nc ns Q := by
  refine ev_iload_n d_Pa_fitsIn_4 rfl ?_
  exact ev_if_ne 12 d_Pa_fitsIn_5 (by decide) kt kf
theorem t_Pa_fitsIn_8 {d : Nat} {o0 : Option Value} {o1 : Option Value} {w : qk_W} {nc ns : Nat} {Q : Option Value ⊕ Nat → qk_W → Nat → Nat → Prop}   (hq : Q (.inl (some (.int 1))) w nc ns) : Ev d m_Pa_fitsIn 8 [o0, o1] [] w nc ns Q := by
  refine ev_iconst 1 d_Pa_fitsIn_8 (by decide) ?_
  refine ev_goto 33 d_Pa_fitsIn_9 (by decide) ?_
  exact ev_iret d_Pa_fitsIn_33 rfl rfl hq
theorem t_Pa_fitsIn_12 {d : Nat} {o0 : Option Value} {o1 : Option Value} {w : qk_W} {nc ns : Nat} {Q : Option Value ⊕ Nat → qk_W → Nat → Nat → Prop}   (hq : Q (.inl (some (.int 0))) w nc ns) : Ev d m_Pa_fitsIn 12 [o0, o1] [] w nc ns Q := by
  refine ev_iconst 0 d_Pa_fitsIn_12 (by decide) ?_
  refine ev_goto 33 d_Pa_fitsIn_13 (by decide) ?_
  exact ev_iret d_Pa_fitsIn_33 rfl rfl hq
theorem t_Pa_fitsIn_16 {d : Nat} {st : List Value} {x0 : Int32} {x1 : Int32} {w : qk_W} {nc ns : Nat} {Q : Option Value ⊕ Nat → qk_W → Nat → Nat → Prop}   (kt : ¬ (qi_shr x0 (x1 - 1)) = (qi_shr x0 31) → Ev d m_Pa_fitsIn 32 [some (.int x0), some (.int x1)] st w nc ns Q) (kf : (qi_shr x0 (x1 - 1)) = (qi_shr x0 31) → Ev d m_Pa_fitsIn 28 [some (.int x0), some (.int x1)] st w nc ns Q) : Ev d m_Pa_fitsIn 16 [some (.int x0), some (.int x1)] st w nc ns Q := by
  refine ev_iload_n d_Pa_fitsIn_16 rfl ?_
  refine ev_iload_n d_Pa_fitsIn_17 rfl ?_
  refine ev_iconst 1 d_Pa_fitsIn_18 (by decide) ?_
  refine ev_isub d_Pa_fitsIn_19 ?_
  refine ev_ishr d_Pa_fitsIn_20 ?_
  refine ev_iload_n d_Pa_fitsIn_21 rfl ?_
  refine ev_bipush 31 d_Pa_fitsIn_22 (by decide) ?_
  refine ev_ishr d_Pa_fitsIn_24 ?_
  exact ev_icmp_ne 32 d_Pa_fitsIn_25 (by decide) kt kf
theorem t_Pa_fitsIn_28 {d : Nat} {o0 : Option Value} {o1 : Option Value} {w : qk_W} {nc ns : Nat} {Q : Option Value ⊕ Nat → qk_W → Nat → Nat → Prop}   (hq : Q (.inl (some (.int 1))) w nc ns) : Ev d m_Pa_fitsIn 28 [o0, o1] [] w nc ns Q := by
  refine ev_iconst 1 d_Pa_fitsIn_28 (by decide) ?_
  refine ev_goto 33 d_Pa_fitsIn_29 (by decide) ?_
  exact ev_iret d_Pa_fitsIn_33 rfl rfl hq
theorem t_Pa_fitsIn_32 {d : Nat} {o0 : Option Value} {o1 : Option Value} {w : qk_W} {nc ns : Nat} {Q : Option Value ⊕ Nat → qk_W → Nat → Nat → Prop}   (hq : Q (.inl (some (.int 0))) w nc ns) : Ev d m_Pa_fitsIn 32 [o0, o1] [] w nc ns Q := by
  refine ev_iconst 0 d_Pa_fitsIn_32 (by decide) ?_
  exact ev_iret d_Pa_fitsIn_33 rfl rfl hq
/-! Pa_sizeFor -/
theorem d_Pa_sizeFor_0 : decode m_Pa_sizeFor.2.1 0 = .ok (.bipush 20, 2) := by decide +kernel
theorem d_Pa_sizeFor_2 : decode m_Pa_sizeFor.2.1 2 = .ok (.iload_n 0, 1) := by decide +kernel
theorem d_Pa_sizeFor_3 : decode m_Pa_sizeFor.2.1 3 = .ok (.bipush 7, 2) := by decide +kernel
theorem d_Pa_sizeFor_5 : decode m_Pa_sizeFor.2.1 5 = .ok (.iadd, 1) := by decide +kernel
theorem d_Pa_sizeFor_6 : decode m_Pa_sizeFor.2.1 6 = .ok (.bipush 8, 2) := by decide +kernel
theorem d_Pa_sizeFor_8 : decode m_Pa_sizeFor.2.1 8 = .ok (.idiv, 1) := by decide +kernel
theorem d_Pa_sizeFor_9 : decode m_Pa_sizeFor.2.1 9 = .ok (.iadd, 1) := by decide +kernel
theorem d_Pa_sizeFor_10 : decode m_Pa_sizeFor.2.1 10 = .ok (.iconst 4, 1) := by decide +kernel
theorem d_Pa_sizeFor_11 : decode m_Pa_sizeFor.2.1 11 = .ok (.iadd, 1) := by decide +kernel
theorem d_Pa_sizeFor_12 : decode m_Pa_sizeFor.2.1 12 = .ok (.ireturn, 1) := by decide +kernel
theorem t_Pa_sizeFor_0 {d : Nat} {x0 : Int32} {w : qk_W} {nc ns : Nat} {Q : Option Value ⊕ Nat → qk_W → Nat → Nat → Prop}   (hq : Q (.inl (some (.int ((20 + ((x0 + 7) / 8)) + 4)))) w nc ns) : Ev d m_Pa_sizeFor 0 [some (.int x0)] [] w nc ns Q := by
  refine ev_bipush 20 d_Pa_sizeFor_0 (by decide) ?_
  refine ev_iload_n d_Pa_sizeFor_2 rfl ?_
  refine ev_bipush 7 d_Pa_sizeFor_3 (by decide) ?_
  refine ev_iadd d_Pa_sizeFor_5 ?_
  refine ev_bipush 8 d_Pa_sizeFor_6 (by decide) ?_
  refine ev_idiv d_Pa_sizeFor_8 (by decide) ?_
  refine ev_iadd d_Pa_sizeFor_9 ?_
  refine ev_iconst 4 d_Pa_sizeFor_10 (by decide) ?_
  refine ev_iadd d_Pa_sizeFor_11 ?_
  exact ev_iret d_Pa_sizeFor_12 rfl rfl hq
/-! Pa_close -/
theorem cw_Pa_58 : qk_cw "QuakeLink$Packet" m_Pa_writeBlock.1 (.invokevirtual 58) := ⟨(lw_i3 _ (List.mem_of_getElem? (i := 51) rfl)), (lw_i3 _ (List.mem_of_getElem? (i := 53) rfl)), (lw_i0 _ (List.mem_of_getElem? (i := 12) rfl))⟩
theorem fl_Pa_61 : qk_fl "QuakeLink$Packet" 61 7 3 := ⟨_, rfl, by decide, rfl, (lw_i2 _ (List.mem_of_getElem? (i := 13) rfl))⟩
theorem fl_Pa_64 : qk_fl "QuakeLink$Packet" 64 8 1 := ⟨_, rfl, by decide, rfl, (lw_i1 _ (List.mem_of_getElem? (i := 237) rfl))⟩
theorem cw_Pa_44 : qk_cw "QuakeLink$Packet" m_Me_put.1 (.invokevirtual 44) := ⟨(lw_i3 _ (List.mem_of_getElem? (i := 59) rfl)), (lw_i2 _ (List.mem_of_getElem? (i := 85) rfl)), (lw_i2 _ (List.mem_of_getElem? (i := 86) rfl))⟩
theorem fl_Pa_26 : qk_fl "QuakeLink$Packet" 26 7 2 := ⟨_, rfl, by decide, rfl, (lw_i2 _ (List.mem_of_getElem? (i := 11) rfl))⟩
theorem d_Pa_close_0 : decode m_Pa_close.2.1 0 = .ok (.aload_n 0, 1) := by decide +kernel
theorem d_Pa_close_1 : decode m_Pa_close.2.1 1 = .ok (.getfield 29, 3) := by decide +kernel
theorem d_Pa_close_4 : decode m_Pa_close.2.1 4 = .ok (.ifCond .le 7, 3) := by decide +kernel
theorem d_Pa_close_7 : decode m_Pa_close.2.1 7 = .ok (.aload_n 0, 1) := by decide +kernel
theorem d_Pa_close_8 : decode m_Pa_close.2.1 8 = .ok (.invokevirtual 58, 3) := by decide +kernel
theorem d_Pa_close_11 : decode m_Pa_close.2.1 11 = .ok (.aload_n 0, 1) := by decide +kernel
theorem d_Pa_close_12 : decode m_Pa_close.2.1 12 = .ok (.iload_n 2, 1) := by decide +kernel
theorem d_Pa_close_13 : decode m_Pa_close.2.1 13 = .ok (.putfield 61, 3) := by decide +kernel
theorem d_Pa_close_16 : decode m_Pa_close.2.1 16 = .ok (.aload_n 0, 1) := by decide +kernel
theorem d_Pa_close_17 : decode m_Pa_close.2.1 17 = .ok (.getfield 12, 3) := by decide +kernel
theorem d_Pa_close_20 : decode m_Pa_close.2.1 20 = .ok (.aload_n 0, 1) := by decide +kernel
theorem d_Pa_close_21 : decode m_Pa_close.2.1 21 = .ok (.getfield 35, 3) := by decide +kernel
theorem d_Pa_close_24 : decode m_Pa_close.2.1 24 = .ok (.invokestatic 55, 3) := by decide +kernel
theorem d_Pa_close_27 : decode m_Pa_close.2.1 27 = .ok (.putfield 64, 3) := by decide +kernel
theorem d_Pa_close_30 : decode m_Pa_close.2.1 30 = .ok (.aload_n 0, 1) := by decide +kernel
theorem d_Pa_close_31 : decode m_Pa_close.2.1 31 = .ok (.getfield 12, 3) := by decide +kernel
theorem d_Pa_close_34 : decode m_Pa_close.2.1 34 = .ok (.iconst 1, 1) := by decide +kernel
theorem d_Pa_close_35 : decode m_Pa_close.2.1 35 = .ok (.iconst 1, 1) := by decide +kernel
theorem d_Pa_close_36 : decode m_Pa_close.2.1 36 = .ok (.iload_n 1, 1) := by decide +kernel
theorem d_Pa_close_37 : decode m_Pa_close.2.1 37 = .ok (.invokevirtual 44, 3) := by decide +kernel
theorem d_Pa_close_40 : decode m_Pa_close.2.1 40 = .ok (.aload_n 0, 1) := by decide +kernel
theorem d_Pa_close_41 : decode m_Pa_close.2.1 41 = .ok (.getfield 12, 3) := by decide +kernel
theorem d_Pa_close_44 : decode m_Pa_close.2.1 44 = .ok (.iconst 2, 1) := by decide +kernel
theorem d_Pa_close_45 : decode m_Pa_close.2.1 45 = .ok (.iconst 2, 1) := by decide +kernel
theorem d_Pa_close_46 : decode m_Pa_close.2.1 46 = .ok (.aload_n 0, 1) := by decide +kernel
theorem d_Pa_close_47 : decode m_Pa_close.2.1 47 = .ok (.getfield 26, 3) := by decide +kernel
theorem d_Pa_close_50 : decode m_Pa_close.2.1 50 = .ok (.invokevirtual 44, 3) := by decide +kernel
theorem d_Pa_close_53 : decode m_Pa_close.2.1 53 = .ok (.aload_n 0, 1) := by decide +kernel
theorem d_Pa_close_54 : decode m_Pa_close.2.1 54 = .ok (.getfield 12, 3) := by decide +kernel
theorem d_Pa_close_57 : decode m_Pa_close.2.1 57 = .ok (.bipush 16, 2) := by decide +kernel
theorem d_Pa_close_59 : decode m_Pa_close.2.1 59 = .ok (.iconst 4, 1) := by decide +kernel
theorem d_Pa_close_60 : decode m_Pa_close.2.1 60 = .ok (.aload_n 0, 1) := by decide +kernel
theorem d_Pa_close_61 : decode m_Pa_close.2.1 61 = .ok (.getfield 38, 3) := by decide +kernel
theorem d_Pa_close_64 : decode m_Pa_close.2.1 64 = .ok (.invokevirtual 44, 3) := by decide +kernel
theorem d_Pa_close_67 : decode m_Pa_close.2.1 67 = .ok (.return_, 1) := by decide +kernel
theorem t_Pa_close_0 {d : Nat} {st : List Value} {a0 : Nat} {o1 : Option Value} {o2 : Option Value} {fs2 : List Value} {n4 : Int32} {w : qk_W} {nc ns : Nat} {Q : Option Value ⊕ Nat → qk_W → Nat → Nat → Prop}  (hw1 : wo w a0 7 fs2) (hf3 : fs2[5]? = some (.int n4)) (kt : n4 ≤ 0 → Ev d m_Pa_close 11 [some (.ref a0), o1, o2] st w nc ns Q) (kf : ¬ (n4 ≤ 0) → Ev d m_Pa_close 7 [some (.ref a0), o1, o2] st w nc ns Q) : Ev d m_Pa_close 0 [some (.ref a0), o1, o2] st w nc ns Q := by
  refine ev_aload_n d_Pa_close_0 rfl rfl ?_
  refine ev_getf d_Pa_close_1 fl_Pa_29 hw1.1 hw1.2 hf3 ?_
  exact ev_if_le 11 d_Pa_close_4 (by decide) kt kf
theorem t_Pa_close_7 {d : Nat} {st : List Value} {a0 : Nat} {o1 : Option Value} {o2 : Option Value} {fsb : List Value} {w : qk_W} {nc ns : Nat} {Q : Option Value ⊕ Nat → qk_W → Nat → Nat → Prop}  (hb : wo w a0 7 fsb) (h8 : (st.map fun v => Value.category v).sum ≤ 8) (k : Ev d m_Pa_writeBlock 0 [some (.ref a0), none] [] w nc ns (fun r w1 nc1 ns1 => match r with | .inl v => Ev (d + 1) m_Pa_close 11 [some (.ref a0), o1, o2] (v.toList ++ st) w1 nc1 ns1 Q | .inr x => Q (.inr x) w1 nc1 ns1)) : Ev (d + 1) m_Pa_close 7 [some (.ref a0), o1, o2] st w nc ns Q := by
  refine ev_aload_n d_Pa_close_7 rfl rfl ?_
  exact ev_call (M' := m_Pa_writeBlock) (As := [.ref a0]) (st := st) d_Pa_close_8 i_Pa_writeBlock (fun h => absurd h (by decide +kernel)) cw_Pa_58 rfl rfl ⟨hb.1, 7, _, _, hb.2, rfl, rfl⟩ rfl (Nat.le_of_ble_eq_true rfl) h8 k
theorem t_Pa_close_11 {d : Nat} {st : List Value} {a0 : Nat} {o1 : Option Value} {x2 : Int32} {fs2 : List Value} {w : qk_W} {nc ns : Nat} {Q : Option Value ⊕ Nat → qk_W → Nat → Nat → Prop}  (hw1 : wo w a0 7 fs2) (hk : 3 < fs2.length) (k : Ev d m_Pa_close 16 [some (.ref a0), o1, some (.int x2)] st (qk_set w a0 (.inr (7, fs2.set 3 (.int x2)))) nc ns Q) : Ev d m_Pa_close 11 [some (.ref a0), o1, some (.int x2)] st w nc ns Q := by
  refine ev_aload_n d_Pa_close_11 rfl rfl ?_
  refine ev_iload_n d_Pa_close_12 rfl ?_
  exact ev_putf d_Pa_close_13 fl_Pa_61 rfl hw1.1 hw1.2 hk (qk_fitI _) k
theorem t_Pa_close_16 {d : Nat} {st : List Value} {a0 : Nat} {o1 : Option Value} {o2 : Option Value} {fs2 : List Value} {c4 : Nat} {n8 : Int32} {w : qk_W} {nc ns : Nat} {Q : Option Value ⊕ Nat → qk_W → Nat → Nat → Prop}  (hw1 : wo w a0 7 fs2) (hf3 : fs2[0]? = some (.ref c4)) (hf7 : fs2[7]? = some (.int n8)) (h8 : ((.ref c4 :: st).map fun v => Value.category v).sum ≤ 8) (k : Ev d m_Pa_sizeFor 0 [some (.int n8)] [] w nc ns (fun r w1 nc1 ns1 => match r with | .inl v => Ev (d + 1) m_Pa_close 27 [some (.ref a0), o1, o2] (v.toList ++ (.ref c4 :: st)) w1 nc1 ns1 Q | .inr x => Q (.inr x) w1 nc1 ns1)) : Ev (d + 1) m_Pa_close 16 [some (.ref a0), o1, o2] st w nc ns Q := by
  refine ev_aload_n d_Pa_close_16 rfl rfl ?_
  refine ev_getf d_Pa_close_17 fl_Pa_12 hw1.1 hw1.2 hf3 ?_
  refine ev_aload_n d_Pa_close_20 rfl rfl ?_
  refine ev_getf d_Pa_close_21 fl_Pa_35 hw1.1 hw1.2 hf7 ?_
  exact ev_call (M' := m_Pa_sizeFor) (As := [.int n8]) (st := (.ref c4 :: st)) d_Pa_close_24 i_Pa_sizeFor (fun h => absurd h (by decide +kernel)) cw_Pa_55 rfl rfl trivial rfl (Nat.le_of_ble_eq_true rfl) h8 k
theorem t_Pa_close_27 {d : Nat} {st : List Value} {o0 : Option Value} {o1 : Option Value} {o2 : Option Value} {y0 : Int32} {b1 : Nat} {fs2 : List Value} {w : qk_W} {nc ns : Nat} {Q : Option Value ⊕ Nat → qk_W → Nat → Nat → Prop}  (hw1 : wo w b1 8 fs2) (hk : 1 < fs2.length) (k : Ev d m_Pa_close 30 [o0, o1, o2] st (qk_set w b1 (.inr (8, fs2.set 1 (.int y0)))) nc ns Q) : Ev d m_Pa_close 27 [o0, o1, o2] (.int y0 :: .ref b1 :: st) w nc ns Q := by
  exact ev_putf d_Pa_close_27 fl_Pa_64 rfl hw1.1 hw1.2 hk (qk_fitI _) k
theorem t_Pa_close_30 {d : Nat} {st : List Value} {a0 : Nat} {x1 : Int32} {o2 : Option Value} {fs2 : List Value} {c4 : Nat} {fsb : List Value} {w : qk_W} {nc ns : Nat} {Q : Option Value ⊕ Nat → qk_W → Nat → Nat → Prop}  (hw1 : wo w a0 7 fs2) (hf3 : fs2[0]? = some (.ref c4)) (hb : wo w c4 8 fsb) (h8 : (st.map fun v => Value.category v).sum ≤ 8) (k : Ev d m_Me_put 0 [some (.ref c4), some (.int 1), some (.int 1), some (.int x1), none] [] w nc ns (fun r w1 nc1 ns1 => match r with | .inl v => Ev (d + 1) m_Pa_close 40 [some (.ref a0), some (.int x1), o2] (v.toList ++ st) w1 nc1 ns1 Q | .inr x => Q (.inr x) w1 nc1 ns1)) : Ev (d + 1) m_Pa_close 30 [some (.ref a0), some (.int x1), o2] st w nc ns Q := by
  refine ev_aload_n d_Pa_close_30 rfl rfl ?_
  refine ev_getf d_Pa_close_31 fl_Pa_12 hw1.1 hw1.2 hf3 ?_
  refine ev_iconst 1 d_Pa_close_34 (by decide) ?_
  refine ev_iconst 1 d_Pa_close_35 (by decide) ?_
  refine ev_iload_n d_Pa_close_36 rfl ?_
  exact ev_call (M' := m_Me_put) (As := [.ref c4, .int 1, .int 1, .int x1]) (st := st) d_Pa_close_37 i_Me_put (fun h => absurd h (by decide +kernel)) cw_Pa_44 rfl rfl ⟨hb.1, 8, _, _, hb.2, rfl, rfl⟩ rfl (Nat.le_of_ble_eq_true rfl) h8 k
theorem t_Pa_close_40 {d : Nat} {st : List Value} {a0 : Nat} {o1 : Option Value} {o2 : Option Value} {fs2 : List Value} {c4 : Nat} {n8 : Int32} {fsb : List Value} {w : qk_W} {nc ns : Nat} {Q : Option Value ⊕ Nat → qk_W → Nat → Nat → Prop}  (hw1 : wo w a0 7 fs2) (hf3 : fs2[0]? = some (.ref c4)) (hf7 : fs2[2]? = some (.int n8)) (hb : wo w c4 8 fsb) (h8 : (st.map fun v => Value.category v).sum ≤ 8) (k : Ev d m_Me_put 0 [some (.ref c4), some (.int 2), some (.int 2), some (.int n8), none] [] w nc ns (fun r w1 nc1 ns1 => match r with | .inl v => Ev (d + 1) m_Pa_close 53 [some (.ref a0), o1, o2] (v.toList ++ st) w1 nc1 ns1 Q | .inr x => Q (.inr x) w1 nc1 ns1)) : Ev (d + 1) m_Pa_close 40 [some (.ref a0), o1, o2] st w nc ns Q := by
  refine ev_aload_n d_Pa_close_40 rfl rfl ?_
  refine ev_getf d_Pa_close_41 fl_Pa_12 hw1.1 hw1.2 hf3 ?_
  refine ev_iconst 2 d_Pa_close_44 (by decide) ?_
  refine ev_iconst 2 d_Pa_close_45 (by decide) ?_
  refine ev_aload_n d_Pa_close_46 rfl rfl ?_
  refine ev_getf d_Pa_close_47 fl_Pa_26 hw1.1 hw1.2 hf7 ?_
  exact ev_call (M' := m_Me_put) (As := [.ref c4, .int 2, .int 2, .int n8]) (st := st) d_Pa_close_50 i_Me_put (fun h => absurd h (by decide +kernel)) cw_Pa_44 rfl rfl ⟨hb.1, 8, _, _, hb.2, rfl, rfl⟩ rfl (Nat.le_of_ble_eq_true rfl) h8 k
theorem t_Pa_close_53 {d : Nat} {st : List Value} {a0 : Nat} {o1 : Option Value} {o2 : Option Value} {fs2 : List Value} {c4 : Nat} {n8 : Int32} {fsb : List Value} {w : qk_W} {nc ns : Nat} {Q : Option Value ⊕ Nat → qk_W → Nat → Nat → Prop}  (hw1 : wo w a0 7 fs2) (hf3 : fs2[0]? = some (.ref c4)) (hf7 : fs2[8]? = some (.int n8)) (hb : wo w c4 8 fsb) (h8 : (st.map fun v => Value.category v).sum ≤ 8) (k : Ev d m_Me_put 0 [some (.ref c4), some (.int 16), some (.int 4), some (.int n8), none] [] w nc ns (fun r w1 nc1 ns1 => match r with | .inl v => Ev (d + 1) m_Pa_close 67 [some (.ref a0), o1, o2] (v.toList ++ st) w1 nc1 ns1 Q | .inr x => Q (.inr x) w1 nc1 ns1)) : Ev (d + 1) m_Pa_close 53 [some (.ref a0), o1, o2] st w nc ns Q := by
  refine ev_aload_n d_Pa_close_53 rfl rfl ?_
  refine ev_getf d_Pa_close_54 fl_Pa_12 hw1.1 hw1.2 hf3 ?_
  refine ev_bipush 16 d_Pa_close_57 (by decide) ?_
  refine ev_iconst 4 d_Pa_close_59 (by decide) ?_
  refine ev_aload_n d_Pa_close_60 rfl rfl ?_
  refine ev_getf d_Pa_close_61 fl_Pa_38 hw1.1 hw1.2 hf7 ?_
  exact ev_call (M' := m_Me_put) (As := [.ref c4, .int 16, .int 4, .int n8]) (st := st) d_Pa_close_64 i_Me_put (fun h => absurd h (by decide +kernel)) cw_Pa_44 rfl rfl ⟨hb.1, 8, _, _, hb.2, rfl, rfl⟩ rfl (Nat.le_of_ble_eq_true rfl) h8 k
theorem t_Pa_close_67 {d : Nat} {o0 : Option Value} {o1 : Option Value} {o2 : Option Value} {w : qk_W} {nc ns : Nat} {Q : Option Value ⊕ Nat → qk_W → Nat → Nat → Prop}   (hq : Q (.inl none) w nc ns) : Ev d m_Pa_close 67 [o0, o1, o2] [] w nc ns Q := by
  exact ev_vret d_Pa_close_67 rfl hq
/-! Pa_writeBlock -/
theorem cw_Pa_71 : qk_cw "QuakeLink$Packet" m_Pa_write.1 (.invokevirtual 71) := ⟨(lw_i3 _ (List.mem_of_getElem? (i := 55) rfl)), (lw_i3 _ (List.mem_of_getElem? (i := 57) rfl)), (lw_i0 _ (List.mem_of_getElem? (i := 13) rfl))⟩
theorem d_Pa_writeBlock_0 : decode m_Pa_writeBlock.2.1 0 = .ok (.aload_n 0, 1) := by decide +kernel
theorem d_Pa_writeBlock_1 : decode m_Pa_writeBlock.2.1 1 = .ok (.aload_n 0, 1) := by decide +kernel
theorem d_Pa_writeBlock_2 : decode m_Pa_writeBlock.2.1 2 = .ok (.getfield 32, 3) := by decide +kernel
theorem d_Pa_writeBlock_5 : decode m_Pa_writeBlock.2.1 5 = .ok (.iconst 4, 1) := by decide +kernel
theorem d_Pa_writeBlock_6 : decode m_Pa_writeBlock.2.1 6 = .ok (.invokevirtual 71, 3) := by decide +kernel
theorem d_Pa_writeBlock_9 : decode m_Pa_writeBlock.2.1 9 = .ok (.iconst 0, 1) := by decide +kernel
theorem d_Pa_writeBlock_10 : decode m_Pa_writeBlock.2.1 10 = .ok (.istore_n 1, 1) := by decide +kernel
theorem d_Pa_writeBlock_11 : decode m_Pa_writeBlock.2.1 11 = .ok (.iload_n 1, 1) := by decide +kernel
theorem d_Pa_writeBlock_12 : decode m_Pa_writeBlock.2.1 12 = .ok (.aload_n 0, 1) := by decide +kernel
theorem d_Pa_writeBlock_13 : decode m_Pa_writeBlock.2.1 13 = .ok (.getfield 29, 3) := by decide +kernel
theorem d_Pa_writeBlock_16 : decode m_Pa_writeBlock.2.1 16 = .ok (.if_icmp .ge 27, 3) := by decide +kernel
theorem d_Pa_writeBlock_19 : decode m_Pa_writeBlock.2.1 19 = .ok (.aload_n 0, 1) := by decide +kernel
theorem d_Pa_writeBlock_20 : decode m_Pa_writeBlock.2.1 20 = .ok (.aload_n 0, 1) := by decide +kernel
theorem d_Pa_writeBlock_21 : decode m_Pa_writeBlock.2.1 21 = .ok (.getfield 18, 3) := by decide +kernel
theorem d_Pa_writeBlock_24 : decode m_Pa_writeBlock.2.1 24 = .ok (.iload_n 1, 1) := by decide +kernel
theorem d_Pa_writeBlock_25 : decode m_Pa_writeBlock.2.1 25 = .ok (.iaload, 1) := by decide +kernel
theorem d_Pa_writeBlock_26 : decode m_Pa_writeBlock.2.1 26 = .ok (.getstatic 48, 3) := by decide +kernel
theorem d_Pa_writeBlock_29 : decode m_Pa_writeBlock.2.1 29 = .ok (.aload_n 0, 1) := by decide +kernel
theorem d_Pa_writeBlock_30 : decode m_Pa_writeBlock.2.1 30 = .ok (.getfield 32, 3) := by decide +kernel
theorem d_Pa_writeBlock_33 : decode m_Pa_writeBlock.2.1 33 = .ok (.iaload, 1) := by decide +kernel
theorem d_Pa_writeBlock_34 : decode m_Pa_writeBlock.2.1 34 = .ok (.invokevirtual 71, 3) := by decide +kernel
theorem d_Pa_writeBlock_37 : decode m_Pa_writeBlock.2.1 37 = .ok (.iinc 1 1, 3) := by decide +kernel
theorem d_Pa_writeBlock_40 : decode m_Pa_writeBlock.2.1 40 = .ok (.goto (-29), 3) := by decide +kernel
theorem d_Pa_writeBlock_43 : decode m_Pa_writeBlock.2.1 43 = .ok (.aload_n 0, 1) := by decide +kernel
theorem d_Pa_writeBlock_44 : decode m_Pa_writeBlock.2.1 44 = .ok (.iconst 0, 1) := by decide +kernel
theorem d_Pa_writeBlock_45 : decode m_Pa_writeBlock.2.1 45 = .ok (.putfield 29, 3) := by decide +kernel
theorem d_Pa_writeBlock_48 : decode m_Pa_writeBlock.2.1 48 = .ok (.aload_n 0, 1) := by decide +kernel
theorem d_Pa_writeBlock_49 : decode m_Pa_writeBlock.2.1 49 = .ok (.iconst 0, 1) := by decide +kernel
theorem d_Pa_writeBlock_50 : decode m_Pa_writeBlock.2.1 50 = .ok (.putfield 32, 3) := by decide +kernel
theorem d_Pa_writeBlock_53 : decode m_Pa_writeBlock.2.1 53 = .ok (.return_, 1) := by decide +kernel
theorem t_Pa_writeBlock_0 {d : Nat} {st : List Value} {a0 : Nat} {o1 : Option Value} {fs2 : List Value} {n4 : Int32} {w : qk_W} {nc ns : Nat} {Q : Option Value ⊕ Nat → qk_W → Nat → Nat → Prop}  (hw1 : wo w a0 7 fs2) (hf3 : fs2[6]? = some (.int n4)) (h8 : (st.map fun v => Value.category v).sum ≤ 8) (k : Ev d m_Pa_write 0 [some (.ref a0), some (.int n4), some (.int 4), none, none, none, none, none] [] w nc ns (fun r w1 nc1 ns1 => match r with | .inl v => Ev (d + 1) m_Pa_writeBlock 9 [some (.ref a0), o1] (v.toList ++ st) w1 nc1 ns1 Q | .inr x => Q (.inr x) w1 nc1 ns1)) : Ev (d + 1) m_Pa_writeBlock 0 [some (.ref a0), o1] st w nc ns Q := by
  refine ev_aload_n d_Pa_writeBlock_0 rfl rfl ?_
  refine ev_aload_n d_Pa_writeBlock_1 rfl rfl ?_
  refine ev_getf d_Pa_writeBlock_2 fl_Pa_32 hw1.1 hw1.2 hf3 ?_
  refine ev_iconst 4 d_Pa_writeBlock_5 (by decide) ?_
  exact ev_call (M' := m_Pa_write) (As := [.ref a0, .int n4, .int 4]) (st := st) d_Pa_writeBlock_6 i_Pa_write (fun h => absurd h (by decide +kernel)) cw_Pa_71 rfl rfl ⟨hw1.1, 7, _, _, hw1.2, rfl, rfl⟩ rfl (Nat.le_of_ble_eq_true rfl) h8 k
theorem t_Pa_writeBlock_9 {d : Nat} {st : List Value} {o0 : Option Value} {o1 : Option Value} {w : qk_W} {nc ns : Nat} {Q : Option Value ⊕ Nat → qk_W → Nat → Nat → Prop}  (hc1 : qk_c2 [o0, o1] 1 = true) (k : Ev d m_Pa_writeBlock 11 [o0, some (.int 0)] st w nc ns Q) : Ev d m_Pa_writeBlock 9 [o0, o1] st w nc ns Q := by
  refine ev_iconst 0 d_Pa_writeBlock_9 (by decide) ?_
  refine ev_istore_n d_Pa_writeBlock_10 (by decide) hc1 ?_
  exact k
theorem t_Pa_writeBlock_11 {d : Nat} {st : List Value} {a0 : Nat} {x1 : Int32} {fs2 : List Value} {n4 : Int32} {w : qk_W} {nc ns : Nat} {Q : Option Value ⊕ Nat → qk_W → Nat → Nat → Prop}  (hw1 : wo w a0 7 fs2) (hf3 : fs2[5]? = some (.int n4)) (kt : n4 ≤ x1 → Ev d m_Pa_writeBlock 43 [some (.ref a0), some (.int x1)] st w nc ns Q) (kf : ¬ (n4 ≤ x1) → Ev d m_Pa_writeBlock 19 [some (.ref a0), some (.int x1)] st w nc ns Q) : Ev d m_Pa_writeBlock 11 [some (.ref a0), some (.int x1)] st w nc ns Q := by
  refine ev_iload_n d_Pa_writeBlock_11 rfl ?_
  refine ev_aload_n d_Pa_writeBlock_12 rfl rfl ?_
  refine ev_getf d_Pa_writeBlock_13 fl_Pa_29 hw1.1 hw1.2 hf3 ?_
  exact ev_icmp_ge 43 d_Pa_writeBlock_16 (by decide) kt kf
theorem t_Pa_writeBlock_19 {d : Nat} {st : List Value} {a0 : Nat} {x1 : Int32} {fs2 : List Value} {c4 : Nat} {n6 : Nat} {f7 : Nat → Int32} {n12 : Int32} {n14 : Nat} {f15 : Nat → Int32} {w : qk_W} {nc ns : Nat} {Q : Option Value ⊕ Nat → qk_W → Nat → Nat → Prop}  (hw1 : wo w a0 7 fs2) (hf3 : fs2[4]? = some (.ref c4)) (ha5 : wi w c4 n6 f7) (hi8 : vp_in x1 n6) (hs1 : w 1 ≠ none) (hf11 : fs2[6]? = some (.int n12)) (ha13 : wi w 1 n14 f15) (hi16 : vp_in n12 n14) (h8 : (st.map fun v => Value.category v).sum ≤ 8) (k : Ev d m_Pa_write 0 [some (.ref a0), some (.int (f7 x1.toNatClampNeg)), some (.int (f15 n12.toNatClampNeg)), none, none, none, none, none] [] w nc ns (fun r w1 nc1 ns1 => match r with | .inl v => Ev (d + 1) m_Pa_writeBlock 37 [some (.ref a0), some (.int x1)] (v.toList ++ st) w1 nc1 ns1 Q | .inr x => Q (.inr x) w1 nc1 ns1)) : Ev (d + 1) m_Pa_writeBlock 19 [some (.ref a0), some (.int x1)] st w nc ns Q := by
  refine ev_aload_n d_Pa_writeBlock_19 rfl rfl ?_
  refine ev_aload_n d_Pa_writeBlock_20 rfl rfl ?_
  refine ev_getf d_Pa_writeBlock_21 fl_Pa_18 hw1.1 hw1.2 hf3 ?_
  refine ev_iload_n d_Pa_writeBlock_24 rfl ?_
  refine ev_iald d_Pa_writeBlock_25 ha5 hi8 ?_
  refine ev_gets d_Pa_writeBlock_26 fs_Pa_48 (Or.inl ⟨rfl, rfl⟩) hs1 ?_
  refine ev_aload_n d_Pa_writeBlock_29 rfl rfl ?_
  refine ev_getf d_Pa_writeBlock_30 fl_Pa_32 hw1.1 hw1.2 hf11 ?_
  refine ev_iald d_Pa_writeBlock_33 ha13 hi16 ?_
  exact ev_call (M' := m_Pa_write) (As := [.ref a0, .int (f7 x1.toNatClampNeg), .int (f15 n12.toNatClampNeg)]) (st := st) d_Pa_writeBlock_34 i_Pa_write (fun h => absurd h (by decide +kernel)) cw_Pa_71 rfl rfl ⟨hw1.1, 7, _, _, hw1.2, rfl, rfl⟩ rfl (Nat.le_of_ble_eq_true rfl) h8 k
theorem t_Pa_writeBlock_37 {d : Nat} {st : List Value} {o0 : Option Value} {x1 : Int32} {w : qk_W} {nc ns : Nat} {Q : Option Value ⊕ Nat → qk_W → Nat → Nat → Prop}  (hc1 : qk_c2 [o0, some (.int x1)] 1 = true) (k : Ev d m_Pa_writeBlock 11 [o0, some (.int (x1 + 1))] st w nc ns Q) : Ev d m_Pa_writeBlock 37 [o0, some (.int x1)] st w nc ns Q := by
  refine ev_iinc 1 d_Pa_writeBlock_37 (by decide) rfl (by decide) hc1 ?_
  refine ev_goto 11 d_Pa_writeBlock_40 (by decide) ?_
  exact k
theorem t_Pa_writeBlock_43 {d : Nat} {st : List Value} {a0 : Nat} {o1 : Option Value} {fs2 : List Value} {w : qk_W} {nc ns : Nat} {Q : Option Value ⊕ Nat → qk_W → Nat → Nat → Prop}  (hw1 : wo w a0 7 fs2) (hk : 5 < fs2.length) (k : Ev d m_Pa_writeBlock 48 [some (.ref a0), o1] st (qk_set w a0 (.inr (7, fs2.set 5 (.int 0)))) nc ns Q) : Ev d m_Pa_writeBlock 43 [some (.ref a0), o1] st w nc ns Q := by
  refine ev_aload_n d_Pa_writeBlock_43 rfl rfl ?_
  refine ev_iconst 0 d_Pa_writeBlock_44 (by decide) ?_
  exact ev_putf d_Pa_writeBlock_45 fl_Pa_29 rfl hw1.1 hw1.2 hk (qk_fitI _) k
theorem t_Pa_writeBlock_48 {d : Nat} {st : List Value} {a0 : Nat} {o1 : Option Value} {fs2 : List Value} {w : qk_W} {nc ns : Nat} {Q : Option Value ⊕ Nat → qk_W → Nat → Nat → Prop}  (hw1 : wo w a0 7 fs2) (hk : 6 < fs2.length) (k : Ev d m_Pa_writeBlock 53 [some (.ref a0), o1] st (qk_set w a0 (.inr (7, fs2.set 6 (.int 0)))) nc ns Q) : Ev d m_Pa_writeBlock 48 [some (.ref a0), o1] st w nc ns Q := by
  refine ev_aload_n d_Pa_writeBlock_48 rfl rfl ?_
  refine ev_iconst 0 d_Pa_writeBlock_49 (by decide) ?_
  exact ev_putf d_Pa_writeBlock_50 fl_Pa_32 rfl hw1.1 hw1.2 hk (qk_fitI _) k
theorem t_Pa_writeBlock_53 {d : Nat} {o0 : Option Value} {o1 : Option Value} {w : qk_W} {nc ns : Nat} {Q : Option Value ⊕ Nat → qk_W → Nat → Nat → Prop}   (hq : Q (.inl none) w nc ns) : Ev d m_Pa_writeBlock 53 [o0, o1] [] w nc ns Q := by
  exact ev_vret d_Pa_writeBlock_53 rfl hq
/-! Pa_write -/
theorem fl_Pa_75 : qk_fl "QuakeLink$Packet" 75 8 0 := ⟨_, rfl, by decide, rfl, (lw_i1 _ (List.mem_of_getElem? (i := 231) rfl))⟩
theorem d_Pa_write_0 : decode m_Pa_write.2.1 0 = .ok (.iload_n 2, 1) := by decide +kernel
theorem d_Pa_write_1 : decode m_Pa_write.2.1 1 = .ok (.istore_n 3, 1) := by decide +kernel
theorem d_Pa_write_2 : decode m_Pa_write.2.1 2 = .ok (.iload_n 3, 1) := by decide +kernel
theorem d_Pa_write_3 : decode m_Pa_write.2.1 3 = .ok (.ifCond .le 114, 3) := by decide +kernel
theorem d_Pa_write_6 : decode m_Pa_write.2.1 6 = .ok (.bipush 20, 2) := by decide +kernel
theorem d_Pa_write_8 : decode m_Pa_write.2.1 8 = .ok (.aload_n 0, 1) := by decide +kernel
theorem d_Pa_write_9 : decode m_Pa_write.2.1 9 = .ok (.getfield 35, 3) := by decide +kernel
theorem d_Pa_write_12 : decode m_Pa_write.2.1 12 = .ok (.bipush 8, 2) := by decide +kernel
theorem d_Pa_write_14 : decode m_Pa_write.2.1 14 = .ok (.idiv, 1) := by decide +kernel
theorem d_Pa_write_15 : decode m_Pa_write.2.1 15 = .ok (.iadd, 1) := by decide +kernel
theorem d_Pa_write_16 : decode m_Pa_write.2.1 16 = .ok (.istore 4, 2) := by decide +kernel
theorem d_Pa_write_18 : decode m_Pa_write.2.1 18 = .ok (.bipush 8, 2) := by decide +kernel
theorem d_Pa_write_20 : decode m_Pa_write.2.1 20 = .ok (.aload_n 0, 1) := by decide +kernel
theorem d_Pa_write_21 : decode m_Pa_write.2.1 21 = .ok (.getfield 35, 3) := by decide +kernel
theorem d_Pa_write_24 : decode m_Pa_write.2.1 24 = .ok (.bipush 8, 2) := by decide +kernel
theorem d_Pa_write_26 : decode m_Pa_write.2.1 26 = .ok (.irem, 1) := by decide +kernel
theorem d_Pa_write_27 : decode m_Pa_write.2.1 27 = .ok (.isub, 1) := by decide +kernel
theorem d_Pa_write_28 : decode m_Pa_write.2.1 28 = .ok (.istore 5, 2) := by decide +kernel
theorem d_Pa_write_30 : decode m_Pa_write.2.1 30 = .ok (.iload 5, 2) := by decide +kernel
theorem d_Pa_write_32 : decode m_Pa_write.2.1 32 = .ok (.iload_n 3, 1) := by decide +kernel
theorem d_Pa_write_33 : decode m_Pa_write.2.1 33 = .ok (.if_icmp .ge 8, 3) := by decide +kernel
theorem d_Pa_write_36 : decode m_Pa_write.2.1 36 = .ok (.iload 5, 2) := by decide +kernel
theorem d_Pa_write_38 : decode m_Pa_write.2.1 38 = .ok (.goto 4, 3) := by decide +kernel
theorem d_Pa_write_41 : decode m_Pa_write.2.1 41 = .ok (.iload_n 3, 1) := by decide +kernel
theorem d_Pa_write_42 : decode m_Pa_write.2.1 42 = .ok (.istore 6, 2) := by decide +kernel
theorem d_Pa_write_44 : decode m_Pa_write.2.1 44 = .ok (.iload_n 3, 1) := by decide +kernel
theorem d_Pa_write_45 : decode m_Pa_write.2.1 45 = .ok (.iload 6, 2) := by decide +kernel
theorem d_Pa_write_47 : decode m_Pa_write.2.1 47 = .ok (.isub, 1) := by decide +kernel
theorem d_Pa_write_48 : decode m_Pa_write.2.1 48 = .ok (.istore_n 3, 1) := by decide +kernel
theorem d_Pa_write_49 : decode m_Pa_write.2.1 49 = .ok (.iload_n 1, 1) := by decide +kernel
theorem d_Pa_write_50 : decode m_Pa_write.2.1 50 = .ok (.iload_n 3, 1) := by decide +kernel
theorem d_Pa_write_51 : decode m_Pa_write.2.1 51 = .ok (.iushr, 1) := by decide +kernel
theorem d_Pa_write_52 : decode m_Pa_write.2.1 52 = .ok (.iconst 1, 1) := by decide +kernel
theorem d_Pa_write_53 : decode m_Pa_write.2.1 53 = .ok (.iload 6, 2) := by decide +kernel
theorem d_Pa_write_55 : decode m_Pa_write.2.1 55 = .ok (.ishl, 1) := by decide +kernel
theorem d_Pa_write_56 : decode m_Pa_write.2.1 56 = .ok (.iconst 1, 1) := by decide +kernel
theorem d_Pa_write_57 : decode m_Pa_write.2.1 57 = .ok (.isub, 1) := by decide +kernel
theorem d_Pa_write_58 : decode m_Pa_write.2.1 58 = .ok (.iand, 1) := by decide +kernel
theorem d_Pa_write_59 : decode m_Pa_write.2.1 59 = .ok (.iload 5, 2) := by decide +kernel
theorem d_Pa_write_61 : decode m_Pa_write.2.1 61 = .ok (.iload 6, 2) := by decide +kernel
theorem d_Pa_write_63 : decode m_Pa_write.2.1 63 = .ok (.isub, 1) := by decide +kernel
theorem d_Pa_write_64 : decode m_Pa_write.2.1 64 = .ok (.ishl, 1) := by decide +kernel
theorem d_Pa_write_65 : decode m_Pa_write.2.1 65 = .ok (.istore 7, 2) := by decide +kernel
theorem d_Pa_write_67 : decode m_Pa_write.2.1 67 = .ok (.aload_n 0, 1) := by decide +kernel
theorem d_Pa_write_68 : decode m_Pa_write.2.1 68 = .ok (.getfield 12, 3) := by decide +kernel
theorem d_Pa_write_71 : decode m_Pa_write.2.1 71 = .ok (.getfield 75, 3) := by decide +kernel
theorem d_Pa_write_74 : decode m_Pa_write.2.1 74 = .ok (.iload 4, 2) := by decide +kernel
theorem d_Pa_write_76 : decode m_Pa_write.2.1 76 = .ok (.iload 5, 2) := by decide +kernel
theorem d_Pa_write_78 : decode m_Pa_write.2.1 78 = .ok (.bipush 8, 2) := by decide +kernel
theorem d_Pa_write_80 : decode m_Pa_write.2.1 80 = .ok (.if_icmp .ne 8, 3) := by decide +kernel
theorem d_Pa_write_83 : decode m_Pa_write.2.1 83 = .ok (.iload 7, 2) := by decide +kernel
theorem d_Pa_write_85 : decode m_Pa_write.2.1 85 = .ok (.goto 16, 3) := by decide +kernel
theorem d_Pa_write_88 : decode m_Pa_write.2.1 88 = .ok (.aload_n 0, 1) := by decide +kernel
theorem d_Pa_write_89 : decode m_Pa_write.2.1 89 = .ok (.getfield 12, 3) := by decide +kernel
theorem d_Pa_write_92 : decode m_Pa_write.2.1 92 = .ok (.getfield 75, 3) := by decide +kernel
theorem d_Pa_write_95 : decode m_Pa_write.2.1 95 = .ok (.iload 4, 2) := by decide +kernel
theorem d_Pa_write_97 : decode m_Pa_write.2.1 97 = .ok (.baload, 1) := by decide +kernel
theorem d_Pa_write_98 : decode m_Pa_write.2.1 98 = .ok (.iload 7, 2) := by decide +kernel
theorem d_Pa_write_100 : decode m_Pa_write.2.1 100 = .ok (.ior, 1) := by decide +kernel
theorem d_Pa_write_101 : decode m_Pa_write.2.1 101 = .ok (.i2b, 1) := by decide +kernel
theorem d_Pa_write_102 : decode m_Pa_write.2.1 102 = .ok (.bastore, 1) := by decide +kernel
theorem d_Pa_write_103 : decode m_Pa_write.2.1 103 = .ok (.aload_n 0, 1) := by decide +kernel
theorem d_Pa_write_104 : decode m_Pa_write.2.1 104 = .ok (.dup, 1) := by decide +kernel
theorem d_Pa_write_105 : decode m_Pa_write.2.1 105 = .ok (.getfield 35, 3) := by decide +kernel
theorem d_Pa_write_108 : decode m_Pa_write.2.1 108 = .ok (.iload 6, 2) := by decide +kernel
theorem d_Pa_write_110 : decode m_Pa_write.2.1 110 = .ok (.iadd, 1) := by decide +kernel
theorem d_Pa_write_111 : decode m_Pa_write.2.1 111 = .ok (.putfield 35, 3) := by decide +kernel
theorem d_Pa_write_114 : decode m_Pa_write.2.1 114 = .ok (.goto (-112), 3) := by decide +kernel
theorem d_Pa_write_117 : decode m_Pa_write.2.1 117 = .ok (.return_, 1) := by decide +kernel
theorem t_Pa_write_0 {d : Nat} {st : List Value} {o0 : Option Value} {o1 : Option Value} {x2 : Int32} {o3 : Option Value} {o4 : Option Value} {o5 : Option Value} {o6 : Option Value} {o7 : Option Value} {w : qk_W} {nc ns : Nat} {Q : Option Value ⊕ Nat → qk_W → Nat → Nat → Prop}   (k : Ev d m_Pa_write 2 [o0, o1, some (.int x2), some (.int x2), o4, o5, o6, o7] st w nc ns Q) : Ev d m_Pa_write 0 [o0, o1, some (.int x2), o3, o4, o5, o6, o7] st w nc ns Q := by
  refine ev_iload_n d_Pa_write_0 rfl ?_
  refine ev_istore_n d_Pa_write_1 (by decide) rfl ?_
  exact k
theorem t_Pa_write_2 {d : Nat} {st : List Value} {o0 : Option Value} {o1 : Option Value} {o2 : Option Value} {x3 : Int32} {o4 : Option Value} {o5 : Option Value} {o6 : Option Value} {o7 : Option Value} {w : qk_W} {nc ns : Nat} {Q : Option Value ⊕ Nat → qk_W → Nat → Nat → Prop}   (kt : x3 ≤ 0 → Ev d m_Pa_write 117 [o0, o1, o2, some (.int x3), o4, o5, o6, o7] st w nc ns Q) (kf : ¬ (x3 ≤ 0) → Ev d m_Pa_write 6 [o0, o1, o2, some (.int x3), o4, o5, o6, o7] st w nc ns Q) : Ev d m_Pa_write 2 [o0, o1, o2, some (.int x3), o4, o5, o6, o7] st w nc ns Q := by
  refine ev_iload_n d_Pa_write_2 rfl ?_
  exact ev_if_le 117 d_Pa_write_3 (by decide) kt kf
theorem t_Pa_write_6 {d : Nat} {st : List Value} {a0 : Nat} {o1 : Option Value} {o2 : Option Value} {x3 : Int32} {o4 : Option Value} {o5 : Option Value} {o6 : Option Value} {o7 : Option Value} {fs2 : List Value} {n4 : Int32} {w : qk_W} {nc ns : Nat} {Q : Option Value ⊕ Nat → qk_W → Nat → Nat → Prop}  (hw1 : wo w a0 7 fs2) (hf3 : fs2[7]? = some (.int n4)) (hc5 : qk_c2 [some (.ref a0), o1, o2, some (.int x3), o4, o5, o6, o7] 4 = true) (kt : x3 ≤ (8 - (qi_rem n4 8)) → Ev d m_Pa_write 41 [some (.ref a0), o1, o2, some (.int x3), some (.int (20 + (n4 / 8))), some (.int (8 - (qi_rem n4 8))), o6, o7] st w nc ns Q) (kf : ¬ (x3 ≤ (8 - (qi_rem n4 8))) → Ev d m_Pa_write 36 [some (.ref a0), o1, o2, some (.int x3), some (.int (20 + (n4 / 8))), some (.int (8 - (qi_rem n4 8))), o6, o7] st w nc ns Q) : Ev d m_Pa_write 6 [some (.ref a0), o1, o2, some (.int x3), o4, o5, o6, o7] st w nc ns Q := by
  refine ev_bipush 20 d_Pa_write_6 (by decide) ?_
  refine ev_aload_n d_Pa_write_8 rfl rfl ?_
  refine ev_getf d_Pa_write_9 fl_Pa_35 hw1.1 hw1.2 hf3 ?_
  refine ev_bipush 8 d_Pa_write_12 (by decide) ?_
  refine ev_idiv d_Pa_write_14 (by decide) ?_
  refine ev_iadd d_Pa_write_15 ?_
  refine ev_istore d_Pa_write_16 (by decide) hc5 ?_
  refine ev_bipush 8 d_Pa_write_18 (by decide) ?_
  refine ev_aload_n d_Pa_write_20 rfl rfl ?_
  refine ev_getf d_Pa_write_21 fl_Pa_35 hw1.1 hw1.2 hf3 ?_
  refine ev_bipush 8 d_Pa_write_24 (by decide) ?_
  refine ev_irem d_Pa_write_26 (by decide) ?_
  refine ev_isub d_Pa_write_27 ?_
  refine ev_istore d_Pa_write_28 (by decide) rfl ?_
  refine ev_iload d_Pa_write_30 rfl ?_
  refine ev_iload_n d_Pa_write_32 rfl ?_
  exact ev_icmp_ge 41 d_Pa_write_33 (by decide) kt kf
theorem t_Pa_write_36 {d : Nat} {st : List Value} {a0 : Nat} {x1 : Int32} {o2 : Option Value} {x3 : Int32} {x4 : Int32} {x5 : Int32} {o6 : Option Value} {o7 : Option Value} {fs3 : List Value} {c5 : Nat} {fs7 : List Value} {c9 : Nat} {w : qk_W} {nc ns : Nat} {Q : Option Value ⊕ Nat → qk_W → Nat → Nat → Prop}  (hc1 : qk_c2 [some (.ref a0), some (.int x1), o2, some (.int x3), some (.int x4), some (.int x5), some (.int x5), o7] 3 = true) (hw2 : wo w a0 7 fs3) (hf4 : fs3[0]? = some (.ref c5)) (hw6 : wo w c5 8 fs7) (hf8 : fs7[0]? = some (.ref c9)) (kt : ¬ x5 = (8 : Int32) → Ev d m_Pa_write 88 [some (.ref a0), some (.int x1), o2, some (.int (x3 - x5)), some (.int x4), some (.int x5), some (.int x5), some (.int (qi_shl ((qi_ushr x1 (x3 - x5)) &&& ((qi_shl 1 x5) - 1)) (x5 - x5)))] (.int x4 :: .ref c9 :: st) w nc ns Q) (kf : x5 = (8 : Int32) → Ev d m_Pa_write 83 [some (.ref a0), some (.int x1), o2, some (.int (x3 - x5)), some (.int x4), some (.int x5), some (.int x5), some (.int (qi_shl ((qi_ushr x1 (x3 - x5)) &&& ((qi_shl 1 x5) - 1)) (x5 - x5)))] (.int x4 :: .ref c9 :: st) w nc ns Q) : Ev d m_Pa_write 36 [some (.ref a0), some (.int x1), o2, some (.int x3), some (.int x4), some (.int x5), o6, o7] st w nc ns Q := by
  refine ev_iload d_Pa_write_36 rfl ?_
  refine ev_goto 42 d_Pa_write_38 (by decide) ?_
  refine ev_istore d_Pa_write_42 (by decide) rfl ?_
  refine ev_iload_n d_Pa_write_44 rfl ?_
  refine ev_iload d_Pa_write_45 rfl ?_
  refine ev_isub d_Pa_write_47 ?_
  refine ev_istore_n d_Pa_write_48 (by decide) hc1 ?_
  refine ev_iload_n d_Pa_write_49 rfl ?_
  refine ev_iload_n d_Pa_write_50 rfl ?_
  refine ev_iushr d_Pa_write_51 ?_
  refine ev_iconst 1 d_Pa_write_52 (by decide) ?_
  refine ev_iload d_Pa_write_53 rfl ?_
  refine ev_ishl d_Pa_write_55 ?_
  refine ev_iconst 1 d_Pa_write_56 (by decide) ?_
  refine ev_isub d_Pa_write_57 ?_
  refine ev_iand d_Pa_write_58 ?_
  refine ev_iload d_Pa_write_59 rfl ?_
  refine ev_iload d_Pa_write_61 rfl ?_
  refine ev_isub d_Pa_write_63 ?_
  refine ev_ishl d_Pa_write_64 ?_
  refine ev_istore d_Pa_write_65 (by decide) rfl ?_
  refine ev_aload_n d_Pa_write_67 rfl rfl ?_
  refine ev_getf d_Pa_write_68 fl_Pa_12 hw2.1 hw2.2 hf4 ?_
  refine ev_getf d_Pa_write_71 fl_Pa_75 hw6.1 hw6.2 hf8 ?_
  refine ev_iload d_Pa_write_74 rfl ?_
  refine ev_iload d_Pa_write_76 rfl ?_
  refine ev_bipush 8 d_Pa_write_78 (by decide) ?_
  exact ev_icmp_ne 88 d_Pa_write_80 (by decide) kt kf
theorem t_Pa_write_41 {d : Nat} {st : List Value} {a0 : Nat} {x1 : Int32} {o2 : Option Value} {x3 : Int32} {x4 : Int32} {x5 : Int32} {o6 : Option Value} {o7 : Option Value} {fs4 : List Value} {c6 : Nat} {fs8 : List Value} {c10 : Nat} {w : qk_W} {nc ns : Nat} {Q : Option Value ⊕ Nat → qk_W → Nat → Nat → Prop}  (hc1 : qk_c2 [some (.ref a0), some (.int x1), o2, some (.int x3), some (.int x4), some (.int x5), o6, o7] 6 = true) (hc2 : qk_c2 [some (.ref a0), some (.int x1), o2, some (.int x3), some (.int x4), some (.int x5), some (.int x3), o7] 3 = true) (hw3 : wo w a0 7 fs4) (hf5 : fs4[0]? = some (.ref c6)) (hw7 : wo w c6 8 fs8) (hf9 : fs8[0]? = some (.ref c10)) (kt : ¬ x5 = (8 : Int32) → Ev d m_Pa_write 88 [some (.ref a0), some (.int x1), o2, some (.int (x3 - x3)), some (.int x4), some (.int x5), some (.int x3), some (.int (qi_shl ((qi_ushr x1 (x3 - x3)) &&& ((qi_shl 1 x3) - 1)) (x5 - x3)))] (.int x4 :: .ref c10 :: st) w nc ns Q) (kf : x5 = (8 : Int32) → Ev d m_Pa_write 83 [some (.ref a0), some (.int x1), o2, some (.int (x3 - x3)), some (.int x4), some (.int x5), some (.int x3), some (.int (qi_shl ((qi_ushr x1 (x3 - x3)) &&& ((qi_shl 1 x3) - 1)) (x5 - x3)))] (.int x4 :: .ref c10 :: st) w nc ns Q) : Ev d m_Pa_write 41 [some (.ref a0), some (.int x1), o2, some (.int x3), some (.int x4), some (.int x5), o6, o7] st w nc ns Q := by
  refine ev_iload_n d_Pa_write_41 rfl ?_
  refine ev_istore d_Pa_write_42 (by decide) hc1 ?_
  refine ev_iload_n d_Pa_write_44 rfl ?_
  refine ev_iload d_Pa_write_45 rfl ?_
  refine ev_isub d_Pa_write_47 ?_
  refine ev_istore_n d_Pa_write_48 (by decide) hc2 ?_
  refine ev_iload_n d_Pa_write_49 rfl ?_
  refine ev_iload_n d_Pa_write_50 rfl ?_
  refine ev_iushr d_Pa_write_51 ?_
  refine ev_iconst 1 d_Pa_write_52 (by decide) ?_
  refine ev_iload d_Pa_write_53 rfl ?_
  refine ev_ishl d_Pa_write_55 ?_
  refine ev_iconst 1 d_Pa_write_56 (by decide) ?_
  refine ev_isub d_Pa_write_57 ?_
  refine ev_iand d_Pa_write_58 ?_
  refine ev_iload d_Pa_write_59 rfl ?_
  refine ev_iload d_Pa_write_61 rfl ?_
  refine ev_isub d_Pa_write_63 ?_
  refine ev_ishl d_Pa_write_64 ?_
  refine ev_istore d_Pa_write_65 (by decide) rfl ?_
  refine ev_aload_n d_Pa_write_67 rfl rfl ?_
  refine ev_getf d_Pa_write_68 fl_Pa_12 hw3.1 hw3.2 hf5 ?_
  refine ev_getf d_Pa_write_71 fl_Pa_75 hw7.1 hw7.2 hf9 ?_
  refine ev_iload d_Pa_write_74 rfl ?_
  refine ev_iload d_Pa_write_76 rfl ?_
  refine ev_bipush 8 d_Pa_write_78 (by decide) ?_
  exact ev_icmp_ne 88 d_Pa_write_80 (by decide) kt kf
theorem t_Pa_write_83 {d : Nat} {st : List Value} {o0 : Option Value} {o1 : Option Value} {o2 : Option Value} {o3 : Option Value} {o4 : Option Value} {o5 : Option Value} {o6 : Option Value} {x7 : Int32} {y0 : Int32} {b1 : Nat} {n2 : Nat} {f3 : Nat → Int32} {w : qk_W} {nc ns : Nat} {Q : Option Value ⊕ Nat → qk_W → Nat → Nat → Prop}  (ha1 : wb w b1 n2 f3) (hi : vp_in y0 n2) (k : Ev d m_Pa_write 103 [o0, o1, o2, o3, o4, o5, o6, some (.int x7)] st (qk_set w b1 (.inl (.byte, n2, .inl (upd f3 y0.toNatClampNeg (Int32.toInt8 ((Int32.toInt8 x7).toInt32)).toInt32)))) nc ns Q) : Ev d m_Pa_write 83 [o0, o1, o2, o3, o4, o5, o6, some (.int x7)] (.int y0 :: .ref b1 :: st) w nc ns Q := by
  refine ev_iload d_Pa_write_83 rfl ?_
  refine ev_goto 101 d_Pa_write_85 (by decide) ?_
  refine ev_i2b d_Pa_write_101 ?_
  exact ev_bast d_Pa_write_102 ha1.1 ha1.2 hi k
theorem t_Pa_write_88 {d : Nat} {st : List Value} {a0 : Nat} {o1 : Option Value} {o2 : Option Value} {o3 : Option Value} {x4 : Int32} {o5 : Option Value} {o6 : Option Value} {x7 : Int32} {y0 : Int32} {b1 : Nat} {fs2 : List Value} {c4 : Nat} {fs6 : List Value} {c8 : Nat} {n10 : Nat} {f11 : Nat → Int32} {n14 : Nat} {f15 : Nat → Int32} {w : qk_W} {nc ns : Nat} {Q : Option Value ⊕ Nat → qk_W → Nat → Nat → Prop}  (hw1 : wo w a0 7 fs2) (hf3 : fs2[0]? = some (.ref c4)) (hw5 : wo w c4 8 fs6) (hf7 : fs6[0]? = some (.ref c8)) (ha9 : wb w c8 n10 f11) (hi12 : vp_in x4 n10) (ha13 : wb w b1 n14 f15) (hi : vp_in y0 n14) (k : Ev d m_Pa_write 103 [some (.ref a0), o1, o2, o3, some (.int x4), o5, o6, some (.int x7)] st (qk_set w b1 (.inl (.byte, n14, .inl (upd f15 y0.toNatClampNeg (Int32.toInt8 ((Int32.toInt8 ((f11 x4.toNatClampNeg) ||| x7)).toInt32)).toInt32)))) nc ns Q) : Ev d m_Pa_write 88 [some (.ref a0), o1, o2, o3, some (.int x4), o5, o6, some (.int x7)] (.int y0 :: .ref b1 :: st) w nc ns Q := by
  refine ev_aload_n d_Pa_write_88 rfl rfl ?_
  refine ev_getf d_Pa_write_89 fl_Pa_12 hw1.1 hw1.2 hf3 ?_
  refine ev_getf d_Pa_write_92 fl_Pa_75 hw5.1 hw5.2 hf7 ?_
  refine ev_iload d_Pa_write_95 rfl ?_
  refine ev_bald d_Pa_write_97 ha9.1 ha9.2 hi12 ?_
  refine ev_iload d_Pa_write_98 rfl ?_
  refine ev_ior d_Pa_write_100 ?_
  refine ev_i2b d_Pa_write_101 ?_
  exact ev_bast d_Pa_write_102 ha13.1 ha13.2 hi k
theorem t_Pa_write_103 {d : Nat} {st : List Value} {a0 : Nat} {o1 : Option Value} {o2 : Option Value} {o3 : Option Value} {o4 : Option Value} {o5 : Option Value} {x6 : Int32} {o7 : Option Value} {fs2 : List Value} {n4 : Int32} {w : qk_W} {nc ns : Nat} {Q : Option Value ⊕ Nat → qk_W → Nat → Nat → Prop}  (hw1 : wo w a0 7 fs2) (hf3 : fs2[7]? = some (.int n4)) (hk : 7 < fs2.length) (k : Ev d m_Pa_write 114 [some (.ref a0), o1, o2, o3, o4, o5, some (.int x6), o7] st (qk_set w a0 (.inr (7, fs2.set 7 (.int (n4 + x6))))) nc ns Q) : Ev d m_Pa_write 103 [some (.ref a0), o1, o2, o3, o4, o5, some (.int x6), o7] st w nc ns Q := by
  refine ev_aload_n d_Pa_write_103 rfl rfl ?_
  refine ev_dup d_Pa_write_104 rfl ?_
  refine ev_getf d_Pa_write_105 fl_Pa_35 hw1.1 hw1.2 hf3 ?_
  refine ev_iload d_Pa_write_108 rfl ?_
  refine ev_iadd d_Pa_write_110 ?_
  exact ev_putf d_Pa_write_111 fl_Pa_35 rfl hw1.1 hw1.2 hk (qk_fitI _) k
theorem t_Pa_write_114 {d : Nat} {st : List Value} {o0 : Option Value} {o1 : Option Value} {o2 : Option Value} {o3 : Option Value} {o4 : Option Value} {o5 : Option Value} {o6 : Option Value} {o7 : Option Value} {w : qk_W} {nc ns : Nat} {Q : Option Value ⊕ Nat → qk_W → Nat → Nat → Prop}   (k : Ev d m_Pa_write 2 [o0, o1, o2, o3, o4, o5, o6, o7] st w nc ns Q) : Ev d m_Pa_write 114 [o0, o1, o2, o3, o4, o5, o6, o7] st w nc ns Q := by
  refine ev_goto 2 d_Pa_write_114 (by decide) ?_
  exact k
theorem t_Pa_write_117 {d : Nat} {o0 : Option Value} {o1 : Option Value} {o2 : Option Value} {o3 : Option Value} {o4 : Option Value} {o5 : Option Value} {o6 : Option Value} {o7 : Option Value} {w : qk_W} {nc ns : Nat} {Q : Option Value ⊕ Nat → qk_W → Nat → Nat → Prop}   (hq : Q (.inl none) w nc ns) : Ev d m_Pa_write 117 [o0, o1, o2, o3, o4, o5, o6, o7] [] w nc ns Q := by
  exact ev_vret d_Pa_write_117 rfl hq
/-! Pa_begin -/
theorem fl_Pa_22 : qk_fl "QuakeLink$Packet" 22 7 1 := ⟨_, rfl, by decide, rfl, (lw_i2 _ (List.mem_of_getElem? (i := 9) rfl))⟩
theorem d_Pa_begin_0 : decode m_Pa_begin.2.1 0 = .ok (.aload_n 0, 1) := by decide +kernel
theorem d_Pa_begin_1 : decode m_Pa_begin.2.1 1 = .ok (.iload_n 2, 1) := by decide +kernel
theorem d_Pa_begin_2 : decode m_Pa_begin.2.1 2 = .ok (.putfield 22, 3) := by decide +kernel
theorem d_Pa_begin_5 : decode m_Pa_begin.2.1 5 = .ok (.aload_n 0, 1) := by decide +kernel
theorem d_Pa_begin_6 : decode m_Pa_begin.2.1 6 = .ok (.iconst 1, 1) := by decide +kernel
theorem d_Pa_begin_7 : decode m_Pa_begin.2.1 7 = .ok (.putfield 26, 3) := by decide +kernel
theorem d_Pa_begin_10 : decode m_Pa_begin.2.1 10 = .ok (.aload_n 0, 1) := by decide +kernel
theorem d_Pa_begin_11 : decode m_Pa_begin.2.1 11 = .ok (.iconst 0, 1) := by decide +kernel
theorem d_Pa_begin_12 : decode m_Pa_begin.2.1 12 = .ok (.putfield 29, 3) := by decide +kernel
theorem d_Pa_begin_15 : decode m_Pa_begin.2.1 15 = .ok (.aload_n 0, 1) := by decide +kernel
theorem d_Pa_begin_16 : decode m_Pa_begin.2.1 16 = .ok (.iconst 0, 1) := by decide +kernel
theorem d_Pa_begin_17 : decode m_Pa_begin.2.1 17 = .ok (.putfield 32, 3) := by decide +kernel
theorem d_Pa_begin_20 : decode m_Pa_begin.2.1 20 = .ok (.aload_n 0, 1) := by decide +kernel
theorem d_Pa_begin_21 : decode m_Pa_begin.2.1 21 = .ok (.iconst 0, 1) := by decide +kernel
theorem d_Pa_begin_22 : decode m_Pa_begin.2.1 22 = .ok (.putfield 35, 3) := by decide +kernel
theorem d_Pa_begin_25 : decode m_Pa_begin.2.1 25 = .ok (.aload_n 0, 1) := by decide +kernel
theorem d_Pa_begin_26 : decode m_Pa_begin.2.1 26 = .ok (.iload_n 3, 1) := by decide +kernel
theorem d_Pa_begin_27 : decode m_Pa_begin.2.1 27 = .ok (.putfield 38, 3) := by decide +kernel
theorem d_Pa_begin_30 : decode m_Pa_begin.2.1 30 = .ok (.aload_n 0, 1) := by decide +kernel
theorem d_Pa_begin_31 : decode m_Pa_begin.2.1 31 = .ok (.iconst 0, 1) := by decide +kernel
theorem d_Pa_begin_32 : decode m_Pa_begin.2.1 32 = .ok (.putfield 41, 3) := by decide +kernel
theorem d_Pa_begin_35 : decode m_Pa_begin.2.1 35 = .ok (.aload_n 0, 1) := by decide +kernel
theorem d_Pa_begin_36 : decode m_Pa_begin.2.1 36 = .ok (.getfield 12, 3) := by decide +kernel
theorem d_Pa_begin_39 : decode m_Pa_begin.2.1 39 = .ok (.iconst 0, 1) := by decide +kernel
theorem d_Pa_begin_40 : decode m_Pa_begin.2.1 40 = .ok (.iconst 1, 1) := by decide +kernel
theorem d_Pa_begin_41 : decode m_Pa_begin.2.1 41 = .ok (.iload_n 1, 1) := by decide +kernel
theorem d_Pa_begin_42 : decode m_Pa_begin.2.1 42 = .ok (.invokevirtual 44, 3) := by decide +kernel
theorem d_Pa_begin_45 : decode m_Pa_begin.2.1 45 = .ok (.aload_n 0, 1) := by decide +kernel
theorem d_Pa_begin_46 : decode m_Pa_begin.2.1 46 = .ok (.getfield 12, 3) := by decide +kernel
theorem d_Pa_begin_49 : decode m_Pa_begin.2.1 49 = .ok (.bipush 8, 2) := by decide +kernel
theorem d_Pa_begin_51 : decode m_Pa_begin.2.1 51 = .ok (.iconst 4, 1) := by decide +kernel
theorem d_Pa_begin_52 : decode m_Pa_begin.2.1 52 = .ok (.iload_n 2, 1) := by decide +kernel
theorem d_Pa_begin_53 : decode m_Pa_begin.2.1 53 = .ok (.invokevirtual 44, 3) := by decide +kernel
theorem d_Pa_begin_56 : decode m_Pa_begin.2.1 56 = .ok (.aload_n 0, 1) := by decide +kernel
theorem d_Pa_begin_57 : decode m_Pa_begin.2.1 57 = .ok (.getfield 12, 3) := by decide +kernel
theorem d_Pa_begin_60 : decode m_Pa_begin.2.1 60 = .ok (.bipush 12, 2) := by decide +kernel
theorem d_Pa_begin_62 : decode m_Pa_begin.2.1 62 = .ok (.iconst 4, 1) := by decide +kernel
theorem d_Pa_begin_63 : decode m_Pa_begin.2.1 63 = .ok (.iload_n 3, 1) := by decide +kernel
theorem d_Pa_begin_64 : decode m_Pa_begin.2.1 64 = .ok (.invokevirtual 44, 3) := by decide +kernel
theorem d_Pa_begin_67 : decode m_Pa_begin.2.1 67 = .ok (.return_, 1) := by decide +kernel
theorem t_Pa_begin_0 {d : Nat} {st : List Value} {a0 : Nat} {o1 : Option Value} {x2 : Int32} {o3 : Option Value} {fs2 : List Value} {w : qk_W} {nc ns : Nat} {Q : Option Value ⊕ Nat → qk_W → Nat → Nat → Prop}  (hw1 : wo w a0 7 fs2) (hk : 1 < fs2.length) (k : Ev d m_Pa_begin 5 [some (.ref a0), o1, some (.int x2), o3] st (qk_set w a0 (.inr (7, fs2.set 1 (.int x2)))) nc ns Q) : Ev d m_Pa_begin 0 [some (.ref a0), o1, some (.int x2), o3] st w nc ns Q := by
  refine ev_aload_n d_Pa_begin_0 rfl rfl ?_
  refine ev_iload_n d_Pa_begin_1 rfl ?_
  exact ev_putf d_Pa_begin_2 fl_Pa_22 rfl hw1.1 hw1.2 hk (qk_fitI _) k
theorem t_Pa_begin_5 {d : Nat} {st : List Value} {a0 : Nat} {o1 : Option Value} {o2 : Option Value} {o3 : Option Value} {fs2 : List Value} {w : qk_W} {nc ns : Nat} {Q : Option Value ⊕ Nat → qk_W → Nat → Nat → Prop}  (hw1 : wo w a0 7 fs2) (hk : 2 < fs2.length) (k : Ev d m_Pa_begin 10 [some (.ref a0), o1, o2, o3] st (qk_set w a0 (.inr (7, fs2.set 2 (.int 1)))) nc ns Q) : Ev d m_Pa_begin 5 [some (.ref a0), o1, o2, o3] st w nc ns Q := by
  refine ev_aload_n d_Pa_begin_5 rfl rfl ?_
  refine ev_iconst 1 d_Pa_begin_6 (by decide) ?_
  exact ev_putf d_Pa_begin_7 fl_Pa_26 rfl hw1.1 hw1.2 hk (qk_fitI _) k
theorem t_Pa_begin_10 {d : Nat} {st : List Value} {a0 : Nat} {o1 : Option Value} {o2 : Option Value} {o3 : Option Value} {fs2 : List Value} {w : qk_W} {nc ns : Nat} {Q : Option Value ⊕ Nat → qk_W → Nat → Nat → Prop}  (hw1 : wo w a0 7 fs2) (hk : 5 < fs2.length) (k : Ev d m_Pa_begin 15 [some (.ref a0), o1, o2, o3] st (qk_set w a0 (.inr (7, fs2.set 5 (.int 0)))) nc ns Q) : Ev d m_Pa_begin 10 [some (.ref a0), o1, o2, o3] st w nc ns Q := by
  refine ev_aload_n d_Pa_begin_10 rfl rfl ?_
  refine ev_iconst 0 d_Pa_begin_11 (by decide) ?_
  exact ev_putf d_Pa_begin_12 fl_Pa_29 rfl hw1.1 hw1.2 hk (qk_fitI _) k
theorem t_Pa_begin_15 {d : Nat} {st : List Value} {a0 : Nat} {o1 : Option Value} {o2 : Option Value} {o3 : Option Value} {fs2 : List Value} {w : qk_W} {nc ns : Nat} {Q : Option Value ⊕ Nat → qk_W → Nat → Nat → Prop}  (hw1 : wo w a0 7 fs2) (hk : 6 < fs2.length) (k : Ev d m_Pa_begin 20 [some (.ref a0), o1, o2, o3] st (qk_set w a0 (.inr (7, fs2.set 6 (.int 0)))) nc ns Q) : Ev d m_Pa_begin 15 [some (.ref a0), o1, o2, o3] st w nc ns Q := by
  refine ev_aload_n d_Pa_begin_15 rfl rfl ?_
  refine ev_iconst 0 d_Pa_begin_16 (by decide) ?_
  exact ev_putf d_Pa_begin_17 fl_Pa_32 rfl hw1.1 hw1.2 hk (qk_fitI _) k
theorem t_Pa_begin_20 {d : Nat} {st : List Value} {a0 : Nat} {o1 : Option Value} {o2 : Option Value} {o3 : Option Value} {fs2 : List Value} {w : qk_W} {nc ns : Nat} {Q : Option Value ⊕ Nat → qk_W → Nat → Nat → Prop}  (hw1 : wo w a0 7 fs2) (hk : 7 < fs2.length) (k : Ev d m_Pa_begin 25 [some (.ref a0), o1, o2, o3] st (qk_set w a0 (.inr (7, fs2.set 7 (.int 0)))) nc ns Q) : Ev d m_Pa_begin 20 [some (.ref a0), o1, o2, o3] st w nc ns Q := by
  refine ev_aload_n d_Pa_begin_20 rfl rfl ?_
  refine ev_iconst 0 d_Pa_begin_21 (by decide) ?_
  exact ev_putf d_Pa_begin_22 fl_Pa_35 rfl hw1.1 hw1.2 hk (qk_fitI _) k
theorem t_Pa_begin_25 {d : Nat} {st : List Value} {a0 : Nat} {o1 : Option Value} {o2 : Option Value} {x3 : Int32} {fs2 : List Value} {w : qk_W} {nc ns : Nat} {Q : Option Value ⊕ Nat → qk_W → Nat → Nat → Prop}  (hw1 : wo w a0 7 fs2) (hk : 8 < fs2.length) (k : Ev d m_Pa_begin 30 [some (.ref a0), o1, o2, some (.int x3)] st (qk_set w a0 (.inr (7, fs2.set 8 (.int x3)))) nc ns Q) : Ev d m_Pa_begin 25 [some (.ref a0), o1, o2, some (.int x3)] st w nc ns Q := by
  refine ev_aload_n d_Pa_begin_25 rfl rfl ?_
  refine ev_iload_n d_Pa_begin_26 rfl ?_
  exact ev_putf d_Pa_begin_27 fl_Pa_38 rfl hw1.1 hw1.2 hk (qk_fitI _) k
theorem t_Pa_begin_30 {d : Nat} {st : List Value} {a0 : Nat} {o1 : Option Value} {o2 : Option Value} {o3 : Option Value} {fs2 : List Value} {w : qk_W} {nc ns : Nat} {Q : Option Value ⊕ Nat → qk_W → Nat → Nat → Prop}  (hw1 : wo w a0 7 fs2) (hk : 9 < fs2.length) (k : Ev d m_Pa_begin 35 [some (.ref a0), o1, o2, o3] st (qk_set w a0 (.inr (7, fs2.set 9 (.int 0)))) nc ns Q) : Ev d m_Pa_begin 30 [some (.ref a0), o1, o2, o3] st w nc ns Q := by
  refine ev_aload_n d_Pa_begin_30 rfl rfl ?_
  refine ev_iconst 0 d_Pa_begin_31 (by decide) ?_
  exact ev_putf d_Pa_begin_32 fl_Pa_41 rfl hw1.1 hw1.2 hk (qk_fitI _) k
theorem t_Pa_begin_35 {d : Nat} {st : List Value} {a0 : Nat} {x1 : Int32} {o2 : Option Value} {o3 : Option Value} {fs2 : List Value} {c4 : Nat} {fsb : List Value} {w : qk_W} {nc ns : Nat} {Q : Option Value ⊕ Nat → qk_W → Nat → Nat → Prop}  (hw1 : wo w a0 7 fs2) (hf3 : fs2[0]? = some (.ref c4)) (hb : wo w c4 8 fsb) (h8 : (st.map fun v => Value.category v).sum ≤ 8) (k : Ev d m_Me_put 0 [some (.ref c4), some (.int 0), some (.int 1), some (.int x1), none] [] w nc ns (fun r w1 nc1 ns1 => match r with | .inl v => Ev (d + 1) m_Pa_begin 45 [some (.ref a0), some (.int x1), o2, o3] (v.toList ++ st) w1 nc1 ns1 Q | .inr x => Q (.inr x) w1 nc1 ns1)) : Ev (d + 1) m_Pa_begin 35 [some (.ref a0), some (.int x1), o2, o3] st w nc ns Q := by
  refine ev_aload_n d_Pa_begin_35 rfl rfl ?_
  refine ev_getf d_Pa_begin_36 fl_Pa_12 hw1.1 hw1.2 hf3 ?_
  refine ev_iconst 0 d_Pa_begin_39 (by decide) ?_
  refine ev_iconst 1 d_Pa_begin_40 (by decide) ?_
  refine ev_iload_n d_Pa_begin_41 rfl ?_
  exact ev_call (M' := m_Me_put) (As := [.ref c4, .int 0, .int 1, .int x1]) (st := st) d_Pa_begin_42 i_Me_put (fun h => absurd h (by decide +kernel)) cw_Pa_44 rfl rfl ⟨hb.1, 8, _, _, hb.2, rfl, rfl⟩ rfl (Nat.le_of_ble_eq_true rfl) h8 k
theorem t_Pa_begin_45 {d : Nat} {st : List Value} {a0 : Nat} {o1 : Option Value} {x2 : Int32} {o3 : Option Value} {fs2 : List Value} {c4 : Nat} {fsb : List Value} {w : qk_W} {nc ns : Nat} {Q : Option Value ⊕ Nat → qk_W → Nat → Nat → Prop}  (hw1 : wo w a0 7 fs2) (hf3 : fs2[0]? = some (.ref c4)) (hb : wo w c4 8 fsb) (h8 : (st.map fun v => Value.category v).sum ≤ 8) (k : Ev d m_Me_put 0 [some (.ref c4), some (.int 8), some (.int 4), some (.int x2), none] [] w nc ns (fun r w1 nc1 ns1 => match r with | .inl v => Ev (d + 1) m_Pa_begin 56 [some (.ref a0), o1, some (.int x2), o3] (v.toList ++ st) w1 nc1 ns1 Q | .inr x => Q (.inr x) w1 nc1 ns1)) : Ev (d + 1) m_Pa_begin 45 [some (.ref a0), o1, some (.int x2), o3] st w nc ns Q := by
  refine ev_aload_n d_Pa_begin_45 rfl rfl ?_
  refine ev_getf d_Pa_begin_46 fl_Pa_12 hw1.1 hw1.2 hf3 ?_
  refine ev_bipush 8 d_Pa_begin_49 (by decide) ?_
  refine ev_iconst 4 d_Pa_begin_51 (by decide) ?_
  refine ev_iload_n d_Pa_begin_52 rfl ?_
  exact ev_call (M' := m_Me_put) (As := [.ref c4, .int 8, .int 4, .int x2]) (st := st) d_Pa_begin_53 i_Me_put (fun h => absurd h (by decide +kernel)) cw_Pa_44 rfl rfl ⟨hb.1, 8, _, _, hb.2, rfl, rfl⟩ rfl (Nat.le_of_ble_eq_true rfl) h8 k
theorem t_Pa_begin_56 {d : Nat} {st : List Value} {a0 : Nat} {o1 : Option Value} {o2 : Option Value} {x3 : Int32} {fs2 : List Value} {c4 : Nat} {fsb : List Value} {w : qk_W} {nc ns : Nat} {Q : Option Value ⊕ Nat → qk_W → Nat → Nat → Prop}  (hw1 : wo w a0 7 fs2) (hf3 : fs2[0]? = some (.ref c4)) (hb : wo w c4 8 fsb) (h8 : (st.map fun v => Value.category v).sum ≤ 8) (k : Ev d m_Me_put 0 [some (.ref c4), some (.int 12), some (.int 4), some (.int x3), none] [] w nc ns (fun r w1 nc1 ns1 => match r with | .inl v => Ev (d + 1) m_Pa_begin 67 [some (.ref a0), o1, o2, some (.int x3)] (v.toList ++ st) w1 nc1 ns1 Q | .inr x => Q (.inr x) w1 nc1 ns1)) : Ev (d + 1) m_Pa_begin 56 [some (.ref a0), o1, o2, some (.int x3)] st w nc ns Q := by
  refine ev_aload_n d_Pa_begin_56 rfl rfl ?_
  refine ev_getf d_Pa_begin_57 fl_Pa_12 hw1.1 hw1.2 hf3 ?_
  refine ev_bipush 12 d_Pa_begin_60 (by decide) ?_
  refine ev_iconst 4 d_Pa_begin_62 (by decide) ?_
  refine ev_iload_n d_Pa_begin_63 rfl ?_
  exact ev_call (M' := m_Me_put) (As := [.ref c4, .int 12, .int 4, .int x3]) (st := st) d_Pa_begin_64 i_Me_put (fun h => absurd h (by decide +kernel)) cw_Pa_44 rfl rfl ⟨hb.1, 8, _, _, hb.2, rfl, rfl⟩ rfl (Nat.le_of_ble_eq_true rfl) h8 k
theorem t_Pa_begin_67 {d : Nat} {o0 : Option Value} {o1 : Option Value} {o2 : Option Value} {o3 : Option Value} {w : qk_W} {nc ns : Nat} {Q : Option Value ⊕ Nat → qk_W → Nat → Nat → Prop}   (hq : Q (.inl none) w nc ns) : Ev d m_Pa_begin 67 [o0, o1, o2, o3] [] w nc ns Q := by
  exact ev_vret d_Pa_begin_67 rfl hq
/-! Pa_append -/
theorem d_Pa_append_0 : decode m_Pa_append.2.1 0 = .ok (.iload_n 1, 1) := by decide +kernel
theorem d_Pa_append_1 : decode m_Pa_append.2.1 1 = .ok (.aload_n 0, 1) := by decide +kernel
theorem d_Pa_append_2 : decode m_Pa_append.2.1 2 = .ok (.getfield 38, 3) := by decide +kernel
theorem d_Pa_append_5 : decode m_Pa_append.2.1 5 = .ok (.isub, 1) := by decide +kernel
theorem d_Pa_append_6 : decode m_Pa_append.2.1 6 = .ok (.aload_n 0, 1) := by decide +kernel
theorem d_Pa_append_7 : decode m_Pa_append.2.1 7 = .ok (.getfield 41, 3) := by decide +kernel
theorem d_Pa_append_10 : decode m_Pa_append.2.1 10 = .ok (.isub, 1) := by decide +kernel
theorem d_Pa_append_11 : decode m_Pa_append.2.1 11 = .ok (.istore_n 2, 1) := by decide +kernel
theorem d_Pa_append_12 : decode m_Pa_append.2.1 12 = .ok (.aload_n 0, 1) := by decide +kernel
theorem d_Pa_append_13 : decode m_Pa_append.2.1 13 = .ok (.getfield 18, 3) := by decide +kernel
theorem d_Pa_append_16 : decode m_Pa_append.2.1 16 = .ok (.aload_n 0, 1) := by decide +kernel
theorem d_Pa_append_17 : decode m_Pa_append.2.1 17 = .ok (.getfield 29, 3) := by decide +kernel
theorem d_Pa_append_20 : decode m_Pa_append.2.1 20 = .ok (.iload_n 2, 1) := by decide +kernel
theorem d_Pa_append_21 : decode m_Pa_append.2.1 21 = .ok (.iastore, 1) := by decide +kernel
theorem d_Pa_append_22 : decode m_Pa_append.2.1 22 = .ok (.aload_n 0, 1) := by decide +kernel
theorem d_Pa_append_23 : decode m_Pa_append.2.1 23 = .ok (.dup, 1) := by decide +kernel
theorem d_Pa_append_24 : decode m_Pa_append.2.1 24 = .ok (.getfield 29, 3) := by decide +kernel
theorem d_Pa_append_27 : decode m_Pa_append.2.1 27 = .ok (.iconst 1, 1) := by decide +kernel
theorem d_Pa_append_28 : decode m_Pa_append.2.1 28 = .ok (.iadd, 1) := by decide +kernel
theorem d_Pa_append_29 : decode m_Pa_append.2.1 29 = .ok (.putfield 29, 3) := by decide +kernel
theorem d_Pa_append_32 : decode m_Pa_append.2.1 32 = .ok (.aload_n 0, 1) := by decide +kernel
theorem d_Pa_append_33 : decode m_Pa_append.2.1 33 = .ok (.aload_n 0, 1) := by decide +kernel
theorem d_Pa_append_34 : decode m_Pa_append.2.1 34 = .ok (.iload_n 2, 1) := by decide +kernel
theorem d_Pa_append_35 : decode m_Pa_append.2.1 35 = .ok (.invokevirtual 51, 3) := by decide +kernel
theorem d_Pa_append_38 : decode m_Pa_append.2.1 38 = .ok (.putfield 32, 3) := by decide +kernel
theorem d_Pa_append_41 : decode m_Pa_append.2.1 41 = .ok (.aload_n 0, 1) := by decide +kernel
theorem d_Pa_append_42 : decode m_Pa_append.2.1 42 = .ok (.iload_n 1, 1) := by decide +kernel
theorem d_Pa_append_43 : decode m_Pa_append.2.1 43 = .ok (.aload_n 0, 1) := by decide +kernel
theorem d_Pa_append_44 : decode m_Pa_append.2.1 44 = .ok (.getfield 38, 3) := by decide +kernel
theorem d_Pa_append_47 : decode m_Pa_append.2.1 47 = .ok (.isub, 1) := by decide +kernel
theorem d_Pa_append_48 : decode m_Pa_append.2.1 48 = .ok (.putfield 41, 3) := by decide +kernel
theorem d_Pa_append_51 : decode m_Pa_append.2.1 51 = .ok (.aload_n 0, 1) := by decide +kernel
theorem d_Pa_append_52 : decode m_Pa_append.2.1 52 = .ok (.iload_n 1, 1) := by decide +kernel
theorem d_Pa_append_53 : decode m_Pa_append.2.1 53 = .ok (.putfield 38, 3) := by decide +kernel
theorem d_Pa_append_56 : decode m_Pa_append.2.1 56 = .ok (.aload_n 0, 1) := by decide +kernel
theorem d_Pa_append_57 : decode m_Pa_append.2.1 57 = .ok (.dup, 1) := by decide +kernel
theorem d_Pa_append_58 : decode m_Pa_append.2.1 58 = .ok (.getfield 26, 3) := by decide +kernel
theorem d_Pa_append_61 : decode m_Pa_append.2.1 61 = .ok (.iconst 1, 1) := by decide +kernel
theorem d_Pa_append_62 : decode m_Pa_append.2.1 62 = .ok (.iadd, 1) := by decide +kernel
theorem d_Pa_append_63 : decode m_Pa_append.2.1 63 = .ok (.putfield 26, 3) := by decide +kernel
theorem d_Pa_append_66 : decode m_Pa_append.2.1 66 = .ok (.aload_n 0, 1) := by decide +kernel
theorem d_Pa_append_67 : decode m_Pa_append.2.1 67 = .ok (.getfield 29, 3) := by decide +kernel
theorem d_Pa_append_70 : decode m_Pa_append.2.1 70 = .ok (.bipush 15, 2) := by decide +kernel
theorem d_Pa_append_72 : decode m_Pa_append.2.1 72 = .ok (.if_icmp .ne 7, 3) := by decide +kernel
theorem d_Pa_append_75 : decode m_Pa_append.2.1 75 = .ok (.aload_n 0, 1) := by decide +kernel
theorem d_Pa_append_76 : decode m_Pa_append.2.1 76 = .ok (.invokevirtual 58, 3) := by decide +kernel
theorem d_Pa_append_79 : decode m_Pa_append.2.1 79 = .ok (.return_, 1) := by decide +kernel
theorem t_Pa_append_0 {d : Nat} {st : List Value} {a0 : Nat} {x1 : Int32} {o2 : Option Value} {fs2 : List Value} {n4 : Int32} {n8 : Int32} {c12 : Nat} {n16 : Int32} {n18 : Nat} {f19 : Nat → Int32} {w : qk_W} {nc ns : Nat} {Q : Option Value ⊕ Nat → qk_W → Nat → Nat → Prop}  (hw1 : wo w a0 7 fs2) (hf3 : fs2[8]? = some (.int n4)) (hf7 : fs2[9]? = some (.int n8)) (hf11 : fs2[4]? = some (.ref c12)) (hf15 : fs2[5]? = some (.int n16)) (ha17 : wi w c12 n18 f19) (hi : vp_in n16 n18) (h16 : 16 ≤ c12) (k : Ev d m_Pa_append 22 [some (.ref a0), some (.int x1), some (.int ((x1 - n4) - n8))] st (qk_set w c12 (.inl (.int, n18, .inl (upd f19 n16.toNatClampNeg ((x1 - n4) - n8))))) nc ns Q) : Ev d m_Pa_append 0 [some (.ref a0), some (.int x1), o2] st w nc ns Q := by
  refine ev_iload_n d_Pa_append_0 rfl ?_
  refine ev_aload_n d_Pa_append_1 rfl rfl ?_
  refine ev_getf d_Pa_append_2 fl_Pa_38 hw1.1 hw1.2 hf3 ?_
  refine ev_isub d_Pa_append_5 ?_
  refine ev_aload_n d_Pa_append_6 rfl rfl ?_
  refine ev_getf d_Pa_append_7 fl_Pa_41 hw1.1 hw1.2 hf7 ?_
  refine ev_isub d_Pa_append_10 ?_
  refine ev_istore_n d_Pa_append_11 (by decide) rfl ?_
  refine ev_aload_n d_Pa_append_12 rfl rfl ?_
  refine ev_getf d_Pa_append_13 fl_Pa_18 hw1.1 hw1.2 hf11 ?_
  refine ev_aload_n d_Pa_append_16 rfl rfl ?_
  refine ev_getf d_Pa_append_17 fl_Pa_29 hw1.1 hw1.2 hf15 ?_
  refine ev_iload_n d_Pa_append_20 rfl ?_
  exact ev_iast d_Pa_append_21 h16 ha17 hi k
theorem t_Pa_append_22 {d : Nat} {st : List Value} {a0 : Nat} {o1 : Option Value} {o2 : Option Value} {fs2 : List Value} {n4 : Int32} {w : qk_W} {nc ns : Nat} {Q : Option Value ⊕ Nat → qk_W → Nat → Nat → Prop}  (hw1 : wo w a0 7 fs2) (hf3 : fs2[5]? = some (.int n4)) (hk : 5 < fs2.length) (k : Ev d m_Pa_append 32 [some (.ref a0), o1, o2] st (qk_set w a0 (.inr (7, fs2.set 5 (.int (n4 + 1))))) nc ns Q) : Ev d m_Pa_append 22 [some (.ref a0), o1, o2] st w nc ns Q := by
  refine ev_aload_n d_Pa_append_22 rfl rfl ?_
  refine ev_dup d_Pa_append_23 rfl ?_
  refine ev_getf d_Pa_append_24 fl_Pa_29 hw1.1 hw1.2 hf3 ?_
  refine ev_iconst 1 d_Pa_append_27 (by decide) ?_
  refine ev_iadd d_Pa_append_28 ?_
  exact ev_putf d_Pa_append_29 fl_Pa_29 rfl hw1.1 hw1.2 hk (qk_fitI _) k
theorem t_Pa_append_32 {d : Nat} {st : List Value} {a0 : Nat} {o1 : Option Value} {x2 : Int32} {fsb : List Value} {w : qk_W} {nc ns : Nat} {Q : Option Value ⊕ Nat → qk_W → Nat → Nat → Prop}  (hb : wo w a0 7 fsb) (h8 : ((.ref a0 :: st).map fun v => Value.category v).sum ≤ 8) (k : Ev d m_Pa_codeWith 0 [some (.ref a0), some (.int x2), none] [] w nc ns (fun r w1 nc1 ns1 => match r with | .inl v => Ev (d + 1) m_Pa_append 38 [some (.ref a0), o1, some (.int x2)] (v.toList ++ (.ref a0 :: st)) w1 nc1 ns1 Q | .inr x => Q (.inr x) w1 nc1 ns1)) : Ev (d + 1) m_Pa_append 32 [some (.ref a0), o1, some (.int x2)] st w nc ns Q := by
  refine ev_aload_n d_Pa_append_32 rfl rfl ?_
  refine ev_aload_n d_Pa_append_33 rfl rfl ?_
  refine ev_iload_n d_Pa_append_34 rfl ?_
  exact ev_call (M' := m_Pa_codeWith) (As := [.ref a0, .int x2]) (st := (.ref a0 :: st)) d_Pa_append_35 i_Pa_codeWith (fun h => absurd h (by decide +kernel)) cw_Pa_51 rfl rfl ⟨hb.1, 7, _, _, hb.2, rfl, rfl⟩ rfl (Nat.le_of_ble_eq_true rfl) h8 k
theorem t_Pa_append_38 {d : Nat} {st : List Value} {o0 : Option Value} {o1 : Option Value} {o2 : Option Value} {y0 : Int32} {b1 : Nat} {fs2 : List Value} {w : qk_W} {nc ns : Nat} {Q : Option Value ⊕ Nat → qk_W → Nat → Nat → Prop}  (hw1 : wo w b1 7 fs2) (hk : 6 < fs2.length) (k : Ev d m_Pa_append 41 [o0, o1, o2] st (qk_set w b1 (.inr (7, fs2.set 6 (.int y0)))) nc ns Q) : Ev d m_Pa_append 38 [o0, o1, o2] (.int y0 :: .ref b1 :: st) w nc ns Q := by
  exact ev_putf d_Pa_append_38 fl_Pa_32 rfl hw1.1 hw1.2 hk (qk_fitI _) k
theorem t_Pa_append_41 {d : Nat} {st : List Value} {a0 : Nat} {x1 : Int32} {o2 : Option Value} {fs2 : List Value} {n4 : Int32} {w : qk_W} {nc ns : Nat} {Q : Option Value ⊕ Nat → qk_W → Nat → Nat → Prop}  (hw1 : wo w a0 7 fs2) (hf3 : fs2[8]? = some (.int n4)) (hk : 9 < fs2.length) (k : Ev d m_Pa_append 51 [some (.ref a0), some (.int x1), o2] st (qk_set w a0 (.inr (7, fs2.set 9 (.int (x1 - n4))))) nc ns Q) : Ev d m_Pa_append 41 [some (.ref a0), some (.int x1), o2] st w nc ns Q := by
  refine ev_aload_n d_Pa_append_41 rfl rfl ?_
  refine ev_iload_n d_Pa_append_42 rfl ?_
  refine ev_aload_n d_Pa_append_43 rfl rfl ?_
  refine ev_getf d_Pa_append_44 fl_Pa_38 hw1.1 hw1.2 hf3 ?_
  refine ev_isub d_Pa_append_47 ?_
  exact ev_putf d_Pa_append_48 fl_Pa_41 rfl hw1.1 hw1.2 hk (qk_fitI _) k
theorem t_Pa_append_51 {d : Nat} {st : List Value} {a0 : Nat} {x1 : Int32} {o2 : Option Value} {fs2 : List Value} {w : qk_W} {nc ns : Nat} {Q : Option Value ⊕ Nat → qk_W → Nat → Nat → Prop}  (hw1 : wo w a0 7 fs2) (hk : 8 < fs2.length) (k : Ev d m_Pa_append 56 [some (.ref a0), some (.int x1), o2] st (qk_set w a0 (.inr (7, fs2.set 8 (.int x1)))) nc ns Q) : Ev d m_Pa_append 51 [some (.ref a0), some (.int x1), o2] st w nc ns Q := by
  refine ev_aload_n d_Pa_append_51 rfl rfl ?_
  refine ev_iload_n d_Pa_append_52 rfl ?_
  exact ev_putf d_Pa_append_53 fl_Pa_38 rfl hw1.1 hw1.2 hk (qk_fitI _) k
theorem t_Pa_append_56 {d : Nat} {st : List Value} {a0 : Nat} {o1 : Option Value} {o2 : Option Value} {fs2 : List Value} {n4 : Int32} {w : qk_W} {nc ns : Nat} {Q : Option Value ⊕ Nat → qk_W → Nat → Nat → Prop}  (hw1 : wo w a0 7 fs2) (hf3 : fs2[2]? = some (.int n4)) (hk : 2 < fs2.length) (k : Ev d m_Pa_append 66 [some (.ref a0), o1, o2] st (qk_set w a0 (.inr (7, fs2.set 2 (.int (n4 + 1))))) nc ns Q) : Ev d m_Pa_append 56 [some (.ref a0), o1, o2] st w nc ns Q := by
  refine ev_aload_n d_Pa_append_56 rfl rfl ?_
  refine ev_dup d_Pa_append_57 rfl ?_
  refine ev_getf d_Pa_append_58 fl_Pa_26 hw1.1 hw1.2 hf3 ?_
  refine ev_iconst 1 d_Pa_append_61 (by decide) ?_
  refine ev_iadd d_Pa_append_62 ?_
  exact ev_putf d_Pa_append_63 fl_Pa_26 rfl hw1.1 hw1.2 hk (qk_fitI _) k
theorem t_Pa_append_66 {d : Nat} {st : List Value} {a0 : Nat} {o1 : Option Value} {o2 : Option Value} {fs2 : List Value} {n4 : Int32} {w : qk_W} {nc ns : Nat} {Q : Option Value ⊕ Nat → qk_W → Nat → Nat → Prop}  (hw1 : wo w a0 7 fs2) (hf3 : fs2[5]? = some (.int n4)) (kt : ¬ n4 = (15 : Int32) → Ev d m_Pa_append 79 [some (.ref a0), o1, o2] st w nc ns Q) (kf : n4 = (15 : Int32) → Ev d m_Pa_append 75 [some (.ref a0), o1, o2] st w nc ns Q) : Ev d m_Pa_append 66 [some (.ref a0), o1, o2] st w nc ns Q := by
  refine ev_aload_n d_Pa_append_66 rfl rfl ?_
  refine ev_getf d_Pa_append_67 fl_Pa_29 hw1.1 hw1.2 hf3 ?_
  refine ev_bipush 15 d_Pa_append_70 (by decide) ?_
  exact ev_icmp_ne 79 d_Pa_append_72 (by decide) kt kf
theorem t_Pa_append_75 {d : Nat} {st : List Value} {a0 : Nat} {o1 : Option Value} {o2 : Option Value} {fsb : List Value} {w : qk_W} {nc ns : Nat} {Q : Option Value ⊕ Nat → qk_W → Nat → Nat → Prop}  (hb : wo w a0 7 fsb) (h8 : (st.map fun v => Value.category v).sum ≤ 8) (k : Ev d m_Pa_writeBlock 0 [some (.ref a0), none] [] w nc ns (fun r w1 nc1 ns1 => match r with | .inl v => Ev (d + 1) m_Pa_append 79 [some (.ref a0), o1, o2] (v.toList ++ st) w1 nc1 ns1 Q | .inr x => Q (.inr x) w1 nc1 ns1)) : Ev (d + 1) m_Pa_append 75 [some (.ref a0), o1, o2] st w nc ns Q := by
  refine ev_aload_n d_Pa_append_75 rfl rfl ?_
  exact ev_call (M' := m_Pa_writeBlock) (As := [.ref a0]) (st := st) d_Pa_append_76 i_Pa_writeBlock (fun h => absurd h (by decide +kernel)) cw_Pa_58 rfl rfl ⟨hb.1, 7, _, _, hb.2, rfl, rfl⟩ rfl (Nat.le_of_ble_eq_true rfl) h8 k
theorem t_Pa_append_79 {d : Nat} {o0 : Option Value} {o1 : Option Value} {o2 : Option Value} {w : qk_W} {nc ns : Nat} {Q : Option Value ⊕ Nat → qk_W → Nat → Nat → Prop}   (hq : Q (.inl none) w nc ns) : Ev d m_Pa_append 79 [o0, o1, o2] [] w nc ns Q := by
  exact ev_vret d_Pa_append_79 rfl hq
