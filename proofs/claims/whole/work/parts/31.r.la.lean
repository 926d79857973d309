/-! La_sample -/
theorem cw_La_7 : qk_cw "QuakeLinkLaw" m_Q_sample.1 (.invokevirtual 7) := ⟨(lw_i2 _ (List.mem_of_getElem? (i := 152) rfl)), (lw_i2 _ (List.mem_of_getElem? (i := 153) rfl)), (lw_i2 _ (List.mem_of_getElem? (i := 154) rfl))⟩
theorem d_La_sample_0 : decode m_La_sample.2.1 0 = .ok (.aload_n 3, 1) := by decide +kernel
theorem d_La_sample_1 : decode m_La_sample.2.1 1 = .ok (.iconst 0, 1) := by decide +kernel
theorem d_La_sample_2 : decode m_La_sample.2.1 2 = .ok (.aload_n 0, 1) := by decide +kernel
theorem d_La_sample_3 : decode m_La_sample.2.1 3 = .ok (.iload_n 1, 1) := by decide +kernel
theorem d_La_sample_4 : decode m_La_sample.2.1 4 = .ok (.iload_n 2, 1) := by decide +kernel
theorem d_La_sample_5 : decode m_La_sample.2.1 5 = .ok (.invokevirtual 7, 3) := by decide +kernel
theorem d_La_sample_8 : decode m_La_sample.2.1 8 = .ok (.i2l, 1) := by decide +kernel
theorem d_La_sample_9 : decode m_La_sample.2.1 9 = .ok (.lastore, 1) := by decide +kernel
theorem d_La_sample_10 : decode m_La_sample.2.1 10 = .ok (.goto 11, 3) := by decide +kernel
theorem d_La_sample_13 : decode m_La_sample.2.1 13 = .ok (.astore 4, 2) := by decide +kernel
theorem d_La_sample_15 : decode m_La_sample.2.1 15 = .ok (.iconst 1, 1) := by decide +kernel
theorem d_La_sample_16 : decode m_La_sample.2.1 16 = .ok (.ireturn, 1) := by decide +kernel
theorem d_La_sample_17 : decode m_La_sample.2.1 17 = .ok (.astore 4, 2) := by decide +kernel
theorem d_La_sample_19 : decode m_La_sample.2.1 19 = .ok (.iconst 2, 1) := by decide +kernel
theorem d_La_sample_20 : decode m_La_sample.2.1 20 = .ok (.ireturn, 1) := by decide +kernel
theorem d_La_sample_21 : decode m_La_sample.2.1 21 = .ok (.iconst 0, 1) := by decide +kernel
theorem d_La_sample_22 : decode m_La_sample.2.1 22 = .ok (.ireturn, 1) := by decide +kernel
theorem t_La_sample_0 {d : Nat} {st : List Value} {a0 : Nat} {x1 : Int32} {x2 : Int32} {v3 : Value} {o4 : Option Value} {fsb : List Value} {w : qk_W} {nc ns : Nat} {Q : Option Value ⊕ Nat → qk_W → Nat → Nat → Prop} (hv3 : qk_isr v3 = true) (hb : wo w a0 0 fsb) (h8 : ((.int 0 :: v3 :: st).map fun v => Value.category v).sum ≤ 8) (k : Ev d m_Q_sample 0 [some (.ref a0), some (.int x1), some (.int x2), none, none] [] w nc ns (fun r w1 nc1 ns1 => match r with | .inl v => Ev (d + 1) m_La_sample 8 [some (.ref a0), some (.int x1), some (.int x2), some v3, o4] (v.toList ++ (.int 0 :: v3 :: st)) w1 nc1 ns1 Q | .inr x => ∃ ci q fs hpc, w1 x = some (.inr (ci, fs)) ∧ qcl[ci]? = some q ∧ qk_find "QuakeLinkLaw" q.1 5 m_La_sample.2.2.2.2 hpc ∧ Ev (d + 1) m_La_sample hpc [some (.ref a0), some (.int x1), some (.int x2), some v3, o4] [.ref x] w1 nc1 ns1 Q)) : Ev (d + 1) m_La_sample 0 [some (.ref a0), some (.int x1), some (.int x2), some v3, o4] st w nc ns Q := by
  refine ev_aload_n d_La_sample_0 rfl hv3 ?_
  refine ev_iconst 0 d_La_sample_1 (by decide) ?_
  refine ev_aload_n d_La_sample_2 rfl rfl ?_
  refine ev_iload_n d_La_sample_3 rfl ?_
  refine ev_iload_n d_La_sample_4 rfl ?_
  exact ev_callH (M' := m_Q_sample) (As := [.ref a0, .int x1, .int x2]) (st := (.int 0 :: v3 :: st)) d_La_sample_5 i_Q_sample (fun h => absurd h (by decide +kernel)) cw_La_7 rfl ⟨hb.1, 0, _, _, hb.2, rfl, rfl⟩ rfl (Nat.le_of_ble_eq_true rfl) h8 k
theorem t_La_sample_8 {d : Nat} {st : List Value} {o0 : Option Value} {o1 : Option Value} {o2 : Option Value} {o3 : Option Value} {o4 : Option Value} {y0 : Int32} {y1 : Int32} {b2 : Nat} {n2 : Nat} {f3 : Nat → Int64} {w : qk_W} {nc ns : Nat} {Q : Option Value ⊕ Nat → qk_W → Nat → Nat → Prop}  (ha1 : wl w b2 n2 f3) (hi : vp_in y1 n2) (k : Ev d m_La_sample 10 [o0, o1, o2, o3, o4] st (qk_set w b2 (.inl (.long, n2, .inr (.inl (vp_updL f3 y1.toNatClampNeg (Int32.toInt64 y0)))))) nc ns Q) : Ev d m_La_sample 8 [o0, o1, o2, o3, o4] (.int y0 :: .int y1 :: .ref b2 :: st) w nc ns Q := by
  refine ev_i2l d_La_sample_8 ?_
  exact ev_last d_La_sample_9 ha1.1 ha1.2 hi k
theorem t_La_sample_10 {d : Nat} {o0 : Option Value} {o1 : Option Value} {o2 : Option Value} {o3 : Option Value} {o4 : Option Value} {w : qk_W} {nc ns : Nat} {Q : Option Value ⊕ Nat → qk_W → Nat → Nat → Prop}   (hq : Q (.inl (some (.int 0))) w nc ns) : Ev d m_La_sample 10 [o0, o1, o2, o3, o4] [] w nc ns Q := by
  refine ev_goto 21 d_La_sample_10 (by decide) ?_
  refine ev_iconst 0 d_La_sample_21 (by decide) ?_
  exact ev_iret d_La_sample_22 rfl rfl hq
theorem t_La_sample_13 {d : Nat} {o0 : Option Value} {o1 : Option Value} {o2 : Option Value} {o3 : Option Value} {o4 : Option Value} {s0 : Value} {w : qk_W} {nc ns : Nat} {Q : Option Value ⊕ Nat → qk_W → Nat → Nat → Prop} (hs0 : qk_isr s0 = true) (hc1 : qk_c2 [o0, o1, o2, o3, o4] 4 = true) (hq : Q (.inl (some (.int 1))) w nc ns) : Ev d m_La_sample 13 [o0, o1, o2, o3, o4] [s0] w nc ns Q := by
  refine ev_astore d_La_sample_13 hs0 (by decide) hc1 ?_
  refine ev_iconst 1 d_La_sample_15 (by decide) ?_
  exact ev_iret d_La_sample_16 rfl rfl hq
theorem t_La_sample_17 {d : Nat} {o0 : Option Value} {o1 : Option Value} {o2 : Option Value} {o3 : Option Value} {o4 : Option Value} {s0 : Value} {w : qk_W} {nc ns : Nat} {Q : Option Value ⊕ Nat → qk_W → Nat → Nat → Prop} (hs0 : qk_isr s0 = true) (hc1 : qk_c2 [o0, o1, o2, o3, o4] 4 = true) (hq : Q (.inl (some (.int 2))) w nc ns) : Ev d m_La_sample 17 [o0, o1, o2, o3, o4] [s0] w nc ns Q := by
  refine ev_astore d_La_sample_17 hs0 (by decide) hc1 ?_
  refine ev_iconst 2 d_La_sample_19 (by decide) ?_
  exact ev_iret d_La_sample_20 rfl rfl hq
/-! La_samples -/
theorem cw_La_17 : qk_cw "QuakeLinkLaw" m_Q_samples.1 (.invokevirtual 17) := ⟨(lw_i3 _ (List.mem_of_getElem? (i := 77) rfl)), (lw_i3 _ (List.mem_of_getElem? (i := 78) rfl)), (lw_i3 _ (List.mem_of_getElem? (i := 79) rfl))⟩
theorem d_La_samples_0 : decode m_La_samples.2.1 0 = .ok (.aload 6, 2) := by decide +kernel
theorem d_La_samples_2 : decode m_La_samples.2.1 2 = .ok (.iconst 0, 1) := by decide +kernel
theorem d_La_samples_3 : decode m_La_samples.2.1 3 = .ok (.aload_n 0, 1) := by decide +kernel
theorem d_La_samples_4 : decode m_La_samples.2.1 4 = .ok (.iload_n 1, 1) := by decide +kernel
theorem d_La_samples_5 : decode m_La_samples.2.1 5 = .ok (.iload_n 2, 1) := by decide +kernel
theorem d_La_samples_6 : decode m_La_samples.2.1 6 = .ok (.iload_n 3, 1) := by decide +kernel
theorem d_La_samples_7 : decode m_La_samples.2.1 7 = .ok (.iload 4, 2) := by decide +kernel
theorem d_La_samples_9 : decode m_La_samples.2.1 9 = .ok (.iload 5, 2) := by decide +kernel
theorem d_La_samples_11 : decode m_La_samples.2.1 11 = .ok (.invokevirtual 17, 3) := by decide +kernel
theorem d_La_samples_14 : decode m_La_samples.2.1 14 = .ok (.i2l, 1) := by decide +kernel
theorem d_La_samples_15 : decode m_La_samples.2.1 15 = .ok (.lastore, 1) := by decide +kernel
theorem d_La_samples_16 : decode m_La_samples.2.1 16 = .ok (.goto 15, 3) := by decide +kernel
theorem d_La_samples_19 : decode m_La_samples.2.1 19 = .ok (.astore 7, 2) := by decide +kernel
theorem d_La_samples_21 : decode m_La_samples.2.1 21 = .ok (.iconst 1, 1) := by decide +kernel
theorem d_La_samples_22 : decode m_La_samples.2.1 22 = .ok (.ireturn, 1) := by decide +kernel
theorem d_La_samples_23 : decode m_La_samples.2.1 23 = .ok (.astore 7, 2) := by decide +kernel
theorem d_La_samples_25 : decode m_La_samples.2.1 25 = .ok (.iconst 2, 1) := by decide +kernel
theorem d_La_samples_26 : decode m_La_samples.2.1 26 = .ok (.ireturn, 1) := by decide +kernel
theorem d_La_samples_27 : decode m_La_samples.2.1 27 = .ok (.astore 7, 2) := by decide +kernel
theorem d_La_samples_29 : decode m_La_samples.2.1 29 = .ok (.iconst 3, 1) := by decide +kernel
theorem d_La_samples_30 : decode m_La_samples.2.1 30 = .ok (.ireturn, 1) := by decide +kernel
theorem d_La_samples_31 : decode m_La_samples.2.1 31 = .ok (.iconst 0, 1) := by decide +kernel
theorem d_La_samples_32 : decode m_La_samples.2.1 32 = .ok (.ireturn, 1) := by decide +kernel
theorem t_La_samples_0 {d : Nat} {st : List Value} {a0 : Nat} {x1 : Int32} {x2 : Int32} {x3 : Int32} {x4 : Int32} {x5 : Int32} {v6 : Value} {o7 : Option Value} {fsb : List Value} {w : qk_W} {nc ns : Nat} {Q : Option Value ⊕ Nat → qk_W → Nat → Nat → Prop} (hv6 : qk_isr v6 = true) (hb : wo w a0 0 fsb) (h8 : ((.int 0 :: v6 :: st).map fun v => Value.category v).sum ≤ 8) (k : Ev d m_Q_samples 0 [some (.ref a0), some (.int x1), some (.int x2), some (.int x3), some (.int x4), some (.int x5), none, none, none, none, none] [] w nc ns (fun r w1 nc1 ns1 => match r with | .inl v => Ev (d + 1) m_La_samples 14 [some (.ref a0), some (.int x1), some (.int x2), some (.int x3), some (.int x4), some (.int x5), some v6, o7] (v.toList ++ (.int 0 :: v6 :: st)) w1 nc1 ns1 Q | .inr x => ∃ ci q fs hpc, w1 x = some (.inr (ci, fs)) ∧ qcl[ci]? = some q ∧ qk_find "QuakeLinkLaw" q.1 11 m_La_samples.2.2.2.2 hpc ∧ Ev (d + 1) m_La_samples hpc [some (.ref a0), some (.int x1), some (.int x2), some (.int x3), some (.int x4), some (.int x5), some v6, o7] [.ref x] w1 nc1 ns1 Q)) : Ev (d + 1) m_La_samples 0 [some (.ref a0), some (.int x1), some (.int x2), some (.int x3), some (.int x4), some (.int x5), some v6, o7] st w nc ns Q := by
  refine ev_aload d_La_samples_0 rfl hv6 ?_
  refine ev_iconst 0 d_La_samples_2 (by decide) ?_
  refine ev_aload_n d_La_samples_3 rfl rfl ?_
  refine ev_iload_n d_La_samples_4 rfl ?_
  refine ev_iload_n d_La_samples_5 rfl ?_
  refine ev_iload_n d_La_samples_6 rfl ?_
  refine ev_iload d_La_samples_7 rfl ?_
  refine ev_iload d_La_samples_9 rfl ?_
  exact ev_callH (M' := m_Q_samples) (As := [.ref a0, .int x1, .int x2, .int x3, .int x4, .int x5]) (st := (.int 0 :: v6 :: st)) d_La_samples_11 i_Q_samples (fun h => absurd h (by decide +kernel)) cw_La_17 rfl ⟨hb.1, 0, _, _, hb.2, rfl, rfl⟩ rfl (Nat.le_of_ble_eq_true rfl) h8 k
theorem t_La_samples_14 {d : Nat} {st : List Value} {o0 : Option Value} {o1 : Option Value} {o2 : Option Value} {o3 : Option Value} {o4 : Option Value} {o5 : Option Value} {o6 : Option Value} {o7 : Option Value} {y0 : Int32} {y1 : Int32} {b2 : Nat} {n2 : Nat} {f3 : Nat → Int64} {w : qk_W} {nc ns : Nat} {Q : Option Value ⊕ Nat → qk_W → Nat → Nat → Prop}  (ha1 : wl w b2 n2 f3) (hi : vp_in y1 n2) (k : Ev d m_La_samples 16 [o0, o1, o2, o3, o4, o5, o6, o7] st (qk_set w b2 (.inl (.long, n2, .inr (.inl (vp_updL f3 y1.toNatClampNeg (Int32.toInt64 y0)))))) nc ns Q) : Ev d m_La_samples 14 [o0, o1, o2, o3, o4, o5, o6, o7] (.int y0 :: .int y1 :: .ref b2 :: st) w nc ns Q := by
  refine ev_i2l d_La_samples_14 ?_
  exact ev_last d_La_samples_15 ha1.1 ha1.2 hi k
theorem t_La_samples_16 {d : Nat} {o0 : Option Value} {o1 : Option Value} {o2 : Option Value} {o3 : Option Value} {o4 : Option Value} {o5 : Option Value} {o6 : Option Value} {o7 : Option Value} {w : qk_W} {nc ns : Nat} {Q : Option Value ⊕ Nat → qk_W → Nat → Nat → Prop}   (hq : Q (.inl (some (.int 0))) w nc ns) : Ev d m_La_samples 16 [o0, o1, o2, o3, o4, o5, o6, o7] [] w nc ns Q := by
  refine ev_goto 31 d_La_samples_16 (by decide) ?_
  refine ev_iconst 0 d_La_samples_31 (by decide) ?_
  exact ev_iret d_La_samples_32 rfl rfl hq
theorem t_La_samples_19 {d : Nat} {o0 : Option Value} {o1 : Option Value} {o2 : Option Value} {o3 : Option Value} {o4 : Option Value} {o5 : Option Value} {o6 : Option Value} {o7 : Option Value} {s0 : Value} {w : qk_W} {nc ns : Nat} {Q : Option Value ⊕ Nat → qk_W → Nat → Nat → Prop} (hs0 : qk_isr s0 = true) (hc1 : qk_c2 [o0, o1, o2, o3, o4, o5, o6, o7] 7 = true) (hq : Q (.inl (some (.int 1))) w nc ns) : Ev d m_La_samples 19 [o0, o1, o2, o3, o4, o5, o6, o7] [s0] w nc ns Q := by
  refine ev_astore d_La_samples_19 hs0 (by decide) hc1 ?_
  refine ev_iconst 1 d_La_samples_21 (by decide) ?_
  exact ev_iret d_La_samples_22 rfl rfl hq
theorem t_La_samples_23 {d : Nat} {o0 : Option Value} {o1 : Option Value} {o2 : Option Value} {o3 : Option Value} {o4 : Option Value} {o5 : Option Value} {o6 : Option Value} {o7 : Option Value} {s0 : Value} {w : qk_W} {nc ns : Nat} {Q : Option Value ⊕ Nat → qk_W → Nat → Nat → Prop} (hs0 : qk_isr s0 = true) (hc1 : qk_c2 [o0, o1, o2, o3, o4, o5, o6, o7] 7 = true) (hq : Q (.inl (some (.int 2))) w nc ns) : Ev d m_La_samples 23 [o0, o1, o2, o3, o4, o5, o6, o7] [s0] w nc ns Q := by
  refine ev_astore d_La_samples_23 hs0 (by decide) hc1 ?_
  refine ev_iconst 2 d_La_samples_25 (by decide) ?_
  exact ev_iret d_La_samples_26 rfl rfl hq
theorem t_La_samples_27 {d : Nat} {o0 : Option Value} {o1 : Option Value} {o2 : Option Value} {o3 : Option Value} {o4 : Option Value} {o5 : Option Value} {o6 : Option Value} {o7 : Option Value} {s0 : Value} {w : qk_W} {nc ns : Nat} {Q : Option Value ⊕ Nat → qk_W → Nat → Nat → Prop} (hs0 : qk_isr s0 = true) (hc1 : qk_c2 [o0, o1, o2, o3, o4, o5, o6, o7] 7 = true) (hq : Q (.inl (some (.int 3))) w nc ns) : Ev d m_La_samples 27 [o0, o1, o2, o3, o4, o5, o6, o7] [s0] w nc ns Q := by
  refine ev_astore d_La_samples_27 hs0 (by decide) hc1 ?_
  refine ev_iconst 3 d_La_samples_29 (by decide) ?_
  exact ev_iret d_La_samples_30 rfl rfl hq
/-! La_quality -/
theorem cw_La_23 : qk_cw "QuakeLinkLaw" m_Q_quality.1 (.invokevirtual 23) := ⟨(lw_i3 _ (List.mem_of_getElem? (i := 100) rfl)), (lw_i3 _ (List.mem_of_getElem? (i := 101) rfl)), (lw_i3 _ (List.mem_of_getElem? (i := 102) rfl))⟩
theorem d_La_quality_0 : decode m_La_quality.2.1 0 = .ok (.aload_n 0, 1) := by decide +kernel
theorem d_La_quality_1 : decode m_La_quality.2.1 1 = .ok (.iload_n 1, 1) := by decide +kernel
theorem d_La_quality_2 : decode m_La_quality.2.1 2 = .ok (.invokevirtual 23, 3) := by decide +kernel
theorem d_La_quality_5 : decode m_La_quality.2.1 5 = .ok (.goto 6, 3) := by decide +kernel
theorem d_La_quality_8 : decode m_La_quality.2.1 8 = .ok (.astore_n 2, 1) := by decide +kernel
theorem d_La_quality_9 : decode m_La_quality.2.1 9 = .ok (.iconst 1, 1) := by decide +kernel
theorem d_La_quality_10 : decode m_La_quality.2.1 10 = .ok (.ireturn, 1) := by decide +kernel
theorem d_La_quality_11 : decode m_La_quality.2.1 11 = .ok (.iconst 0, 1) := by decide +kernel
theorem d_La_quality_12 : decode m_La_quality.2.1 12 = .ok (.ireturn, 1) := by decide +kernel
theorem t_La_quality_0 {d : Nat} {st : List Value} {a0 : Nat} {x1 : Int32} {o2 : Option Value} {fsb : List Value} {w : qk_W} {nc ns : Nat} {Q : Option Value ⊕ Nat → qk_W → Nat → Nat → Prop}  (hb : wo w a0 0 fsb) (h8 : (st.map fun v => Value.category v).sum ≤ 8) (k : Ev d m_Q_quality 0 [some (.ref a0), some (.int x1)] [] w nc ns (fun r w1 nc1 ns1 => match r with | .inl v => Ev (d + 1) m_La_quality 5 [some (.ref a0), some (.int x1), o2] (v.toList ++ st) w1 nc1 ns1 Q | .inr x => ∃ ci q fs hpc, w1 x = some (.inr (ci, fs)) ∧ qcl[ci]? = some q ∧ qk_find "QuakeLinkLaw" q.1 2 m_La_quality.2.2.2.2 hpc ∧ Ev (d + 1) m_La_quality hpc [some (.ref a0), some (.int x1), o2] [.ref x] w1 nc1 ns1 Q)) : Ev (d + 1) m_La_quality 0 [some (.ref a0), some (.int x1), o2] st w nc ns Q := by
  refine ev_aload_n d_La_quality_0 rfl rfl ?_
  refine ev_iload_n d_La_quality_1 rfl ?_
  exact ev_callH (M' := m_Q_quality) (As := [.ref a0, .int x1]) (st := st) d_La_quality_2 i_Q_quality (fun h => absurd h (by decide +kernel)) cw_La_23 rfl ⟨hb.1, 0, _, _, hb.2, rfl, rfl⟩ rfl (Nat.le_of_ble_eq_true rfl) h8 k
theorem t_La_quality_5 {d : Nat} {o0 : Option Value} {o1 : Option Value} {o2 : Option Value} {w : qk_W} {nc ns : Nat} {Q : Option Value ⊕ Nat → qk_W → Nat → Nat → Prop}   (hq : Q (.inl (some (.int 0))) w nc ns) : Ev d m_La_quality 5 [o0, o1, o2] [] w nc ns Q := by
  refine ev_goto 11 d_La_quality_5 (by decide) ?_
  refine ev_iconst 0 d_La_quality_11 (by decide) ?_
  exact ev_iret d_La_quality_12 rfl rfl hq
theorem t_La_quality_8 {d : Nat} {o0 : Option Value} {o1 : Option Value} {o2 : Option Value} {s0 : Value} {w : qk_W} {nc ns : Nat} {Q : Option Value ⊕ Nat → qk_W → Nat → Nat → Prop} (hs0 : qk_isr s0 = true) (hc1 : qk_c2 [o0, o1, o2] 2 = true) (hq : Q (.inl (some (.int 1))) w nc ns) : Ev d m_La_quality 8 [o0, o1, o2] [s0] w nc ns Q := by
  refine ev_astore_n d_La_quality_8 hs0 (by decide) hc1 ?_
  refine ev_iconst 1 d_La_quality_9 (by decide) ?_
  exact ev_iret d_La_quality_10 rfl rfl hq
/-! La_flush -/
theorem cw_La_27 : qk_cw "QuakeLinkLaw" m_Q_flush.1 (.invokevirtual 27) := ⟨(lw_i3 _ (List.mem_of_getElem? (i := 108) rfl)), (lw_i3 _ (List.mem_of_getElem? (i := 109) rfl)), (lw_i3 _ (List.mem_of_getElem? (i := 110) rfl))⟩
theorem d_La_flush_0 : decode m_La_flush.2.1 0 = .ok (.aload_n 2, 1) := by decide +kernel
theorem d_La_flush_1 : decode m_La_flush.2.1 1 = .ok (.iconst 0, 1) := by decide +kernel
theorem d_La_flush_2 : decode m_La_flush.2.1 2 = .ok (.aload_n 0, 1) := by decide +kernel
theorem d_La_flush_3 : decode m_La_flush.2.1 3 = .ok (.iload_n 1, 1) := by decide +kernel
theorem d_La_flush_4 : decode m_La_flush.2.1 4 = .ok (.invokevirtual 27, 3) := by decide +kernel
theorem d_La_flush_7 : decode m_La_flush.2.1 7 = .ok (.i2l, 1) := by decide +kernel
theorem d_La_flush_8 : decode m_La_flush.2.1 8 = .ok (.lastore, 1) := by decide +kernel
theorem d_La_flush_9 : decode m_La_flush.2.1 9 = .ok (.goto 6, 3) := by decide +kernel
theorem d_La_flush_12 : decode m_La_flush.2.1 12 = .ok (.astore_n 3, 1) := by decide +kernel
theorem d_La_flush_13 : decode m_La_flush.2.1 13 = .ok (.iconst 1, 1) := by decide +kernel
theorem d_La_flush_14 : decode m_La_flush.2.1 14 = .ok (.ireturn, 1) := by decide +kernel
theorem d_La_flush_15 : decode m_La_flush.2.1 15 = .ok (.iconst 0, 1) := by decide +kernel
theorem d_La_flush_16 : decode m_La_flush.2.1 16 = .ok (.ireturn, 1) := by decide +kernel
theorem t_La_flush_0 {d : Nat} {st : List Value} {a0 : Nat} {x1 : Int32} {v2 : Value} {o3 : Option Value} {fsb : List Value} {w : qk_W} {nc ns : Nat} {Q : Option Value ⊕ Nat → qk_W → Nat → Nat → Prop} (hv2 : qk_isr v2 = true) (hb : wo w a0 0 fsb) (h8 : ((.int 0 :: v2 :: st).map fun v => Value.category v).sum ≤ 8) (k : Ev d m_Q_flush 0 [some (.ref a0), some (.int x1), none, none] [] w nc ns (fun r w1 nc1 ns1 => match r with | .inl v => Ev (d + 1) m_La_flush 7 [some (.ref a0), some (.int x1), some v2, o3] (v.toList ++ (.int 0 :: v2 :: st)) w1 nc1 ns1 Q | .inr x => ∃ ci q fs hpc, w1 x = some (.inr (ci, fs)) ∧ qcl[ci]? = some q ∧ qk_find "QuakeLinkLaw" q.1 4 m_La_flush.2.2.2.2 hpc ∧ Ev (d + 1) m_La_flush hpc [some (.ref a0), some (.int x1), some v2, o3] [.ref x] w1 nc1 ns1 Q)) : Ev (d + 1) m_La_flush 0 [some (.ref a0), some (.int x1), some v2, o3] st w nc ns Q := by
  refine ev_aload_n d_La_flush_0 rfl hv2 ?_
  refine ev_iconst 0 d_La_flush_1 (by decide) ?_
  refine ev_aload_n d_La_flush_2 rfl rfl ?_
  refine ev_iload_n d_La_flush_3 rfl ?_
  exact ev_callH (M' := m_Q_flush) (As := [.ref a0, .int x1]) (st := (.int 0 :: v2 :: st)) d_La_flush_4 i_Q_flush (fun h => absurd h (by decide +kernel)) cw_La_27 rfl ⟨hb.1, 0, _, _, hb.2, rfl, rfl⟩ rfl (Nat.le_of_ble_eq_true rfl) h8 k
theorem t_La_flush_7 {d : Nat} {st : List Value} {o0 : Option Value} {o1 : Option Value} {o2 : Option Value} {o3 : Option Value} {y0 : Int32} {y1 : Int32} {b2 : Nat} {n2 : Nat} {f3 : Nat → Int64} {w : qk_W} {nc ns : Nat} {Q : Option Value ⊕ Nat → qk_W → Nat → Nat → Prop}  (ha1 : wl w b2 n2 f3) (hi : vp_in y1 n2) (k : Ev d m_La_flush 9 [o0, o1, o2, o3] st (qk_set w b2 (.inl (.long, n2, .inr (.inl (vp_updL f3 y1.toNatClampNeg (Int32.toInt64 y0)))))) nc ns Q) : Ev d m_La_flush 7 [o0, o1, o2, o3] (.int y0 :: .int y1 :: .ref b2 :: st) w nc ns Q := by
  refine ev_i2l d_La_flush_7 ?_
  exact ev_last d_La_flush_8 ha1.1 ha1.2 hi k
theorem t_La_flush_9 {d : Nat} {o0 : Option Value} {o1 : Option Value} {o2 : Option Value} {o3 : Option Value} {w : qk_W} {nc ns : Nat} {Q : Option Value ⊕ Nat → qk_W → Nat → Nat → Prop}   (hq : Q (.inl (some (.int 0))) w nc ns) : Ev d m_La_flush 9 [o0, o1, o2, o3] [] w nc ns Q := by
  refine ev_goto 15 d_La_flush_9 (by decide) ?_
  refine ev_iconst 0 d_La_flush_15 (by decide) ?_
  exact ev_iret d_La_flush_16 rfl rfl hq
theorem t_La_flush_12 {d : Nat} {o0 : Option Value} {o1 : Option Value} {o2 : Option Value} {o3 : Option Value} {s0 : Value} {w : qk_W} {nc ns : Nat} {Q : Option Value ⊕ Nat → qk_W → Nat → Nat → Prop} (hs0 : qk_isr s0 = true) (hc1 : qk_c2 [o0, o1, o2, o3] 3 = true) (hq : Q (.inl (some (.int 1))) w nc ns) : Ev d m_La_flush 12 [o0, o1, o2, o3] [s0] w nc ns Q := by
  refine ev_astore_n d_La_flush_12 hs0 (by decide) hc1 ?_
  refine ev_iconst 1 d_La_flush_13 (by decide) ?_
  exact ev_iret d_La_flush_14 rfl rfl hq
/-! La_deliver -/
theorem cw_La_31 : qk_cw "QuakeLinkLaw" m_Q_deliver.1 (.invokevirtual 31) := ⟨(lw_i3 _ (List.mem_of_getElem? (i := 117) rfl)), (lw_i3 _ (List.mem_of_getElem? (i := 118) rfl)), (lw_i3 _ (List.mem_of_getElem? (i := 119) rfl))⟩
theorem d_La_deliver_0 : decode m_La_deliver.2.1 0 = .ok (.aload_n 2, 1) := by decide +kernel
theorem d_La_deliver_1 : decode m_La_deliver.2.1 1 = .ok (.iconst 0, 1) := by decide +kernel
theorem d_La_deliver_2 : decode m_La_deliver.2.1 2 = .ok (.aload_n 0, 1) := by decide +kernel
theorem d_La_deliver_3 : decode m_La_deliver.2.1 3 = .ok (.iload_n 1, 1) := by decide +kernel
theorem d_La_deliver_4 : decode m_La_deliver.2.1 4 = .ok (.invokevirtual 31, 3) := by decide +kernel
theorem d_La_deliver_7 : decode m_La_deliver.2.1 7 = .ok (.i2l, 1) := by decide +kernel
theorem d_La_deliver_8 : decode m_La_deliver.2.1 8 = .ok (.lastore, 1) := by decide +kernel
theorem d_La_deliver_9 : decode m_La_deliver.2.1 9 = .ok (.goto 6, 3) := by decide +kernel
theorem d_La_deliver_12 : decode m_La_deliver.2.1 12 = .ok (.astore_n 3, 1) := by decide +kernel
theorem d_La_deliver_13 : decode m_La_deliver.2.1 13 = .ok (.iconst 1, 1) := by decide +kernel
theorem d_La_deliver_14 : decode m_La_deliver.2.1 14 = .ok (.ireturn, 1) := by decide +kernel
theorem d_La_deliver_15 : decode m_La_deliver.2.1 15 = .ok (.iconst 0, 1) := by decide +kernel
theorem d_La_deliver_16 : decode m_La_deliver.2.1 16 = .ok (.ireturn, 1) := by decide +kernel
theorem t_La_deliver_0 {d : Nat} {st : List Value} {a0 : Nat} {x1 : Int32} {v2 : Value} {o3 : Option Value} {fsb : List Value} {w : qk_W} {nc ns : Nat} {Q : Option Value ⊕ Nat → qk_W → Nat → Nat → Prop} (hv2 : qk_isr v2 = true) (hb : wo w a0 0 fsb) (h8 : ((.int 0 :: v2 :: st).map fun v => Value.category v).sum ≤ 8) (k : Ev d m_Q_deliver 0 [some (.ref a0), some (.int x1)] [] w nc ns (fun r w1 nc1 ns1 => match r with | .inl v => Ev (d + 1) m_La_deliver 7 [some (.ref a0), some (.int x1), some v2, o3] (v.toList ++ (.int 0 :: v2 :: st)) w1 nc1 ns1 Q | .inr x => ∃ ci q fs hpc, w1 x = some (.inr (ci, fs)) ∧ qcl[ci]? = some q ∧ qk_find "QuakeLinkLaw" q.1 4 m_La_deliver.2.2.2.2 hpc ∧ Ev (d + 1) m_La_deliver hpc [some (.ref a0), some (.int x1), some v2, o3] [.ref x] w1 nc1 ns1 Q)) : Ev (d + 1) m_La_deliver 0 [some (.ref a0), some (.int x1), some v2, o3] st w nc ns Q := by
  refine ev_aload_n d_La_deliver_0 rfl hv2 ?_
  refine ev_iconst 0 d_La_deliver_1 (by decide) ?_
  refine ev_aload_n d_La_deliver_2 rfl rfl ?_
  refine ev_iload_n d_La_deliver_3 rfl ?_
  exact ev_callH (M' := m_Q_deliver) (As := [.ref a0, .int x1]) (st := (.int 0 :: v2 :: st)) d_La_deliver_4 i_Q_deliver (fun h => absurd h (by decide +kernel)) cw_La_31 rfl ⟨hb.1, 0, _, _, hb.2, rfl, rfl⟩ rfl (Nat.le_of_ble_eq_true rfl) h8 k
theorem t_La_deliver_7 {d : Nat} {st : List Value} {o0 : Option Value} {o1 : Option Value} {o2 : Option Value} {o3 : Option Value} {y0 : Int32} {y1 : Int32} {b2 : Nat} {n2 : Nat} {f3 : Nat → Int64} {w : qk_W} {nc ns : Nat} {Q : Option Value ⊕ Nat → qk_W → Nat → Nat → Prop}  (ha1 : wl w b2 n2 f3) (hi : vp_in y1 n2) (k : Ev d m_La_deliver 9 [o0, o1, o2, o3] st (qk_set w b2 (.inl (.long, n2, .inr (.inl (vp_updL f3 y1.toNatClampNeg (Int32.toInt64 y0)))))) nc ns Q) : Ev d m_La_deliver 7 [o0, o1, o2, o3] (.int y0 :: .int y1 :: .ref b2 :: st) w nc ns Q := by
  refine ev_i2l d_La_deliver_7 ?_
  exact ev_last d_La_deliver_8 ha1.1 ha1.2 hi k
theorem t_La_deliver_9 {d : Nat} {o0 : Option Value} {o1 : Option Value} {o2 : Option Value} {o3 : Option Value} {w : qk_W} {nc ns : Nat} {Q : Option Value ⊕ Nat → qk_W → Nat → Nat → Prop}   (hq : Q (.inl (some (.int 0))) w nc ns) : Ev d m_La_deliver 9 [o0, o1, o2, o3] [] w nc ns Q := by
  refine ev_goto 15 d_La_deliver_9 (by decide) ?_
  refine ev_iconst 0 d_La_deliver_15 (by decide) ?_
  exact ev_iret d_La_deliver_16 rfl rfl hq
theorem t_La_deliver_12 {d : Nat} {o0 : Option Value} {o1 : Option Value} {o2 : Option Value} {o3 : Option Value} {s0 : Value} {w : qk_W} {nc ns : Nat} {Q : Option Value ⊕ Nat → qk_W → Nat → Nat → Prop} (hs0 : qk_isr s0 = true) (hc1 : qk_c2 [o0, o1, o2, o3] 3 = true) (hq : Q (.inl (some (.int 1))) w nc ns) : Ev d m_La_deliver 12 [o0, o1, o2, o3] [s0] w nc ns Q := by
  refine ev_astore_n d_La_deliver_12 hs0 (by decide) hc1 ?_
  refine ev_iconst 1 d_La_deliver_13 (by decide) ?_
  exact ev_iret d_La_deliver_14 rfl rfl hq
/-! La_hear -/
theorem cw_La_34 : qk_cw "QuakeLinkLaw" m_Q_hear.1 (.invokevirtual 34) := ⟨(lw_i4 _ (List.mem_of_getElem? (i := 25) rfl)), (lw_i4 _ (List.mem_of_getElem? (i := 26) rfl)), (lw_i4 _ (List.mem_of_getElem? (i := 27) rfl))⟩
theorem d_La_hear_0 : decode m_La_hear.2.1 0 = .ok (.aload_n 2, 1) := by decide +kernel
theorem d_La_hear_1 : decode m_La_hear.2.1 1 = .ok (.iconst 0, 1) := by decide +kernel
theorem d_La_hear_2 : decode m_La_hear.2.1 2 = .ok (.aload_n 0, 1) := by decide +kernel
theorem d_La_hear_3 : decode m_La_hear.2.1 3 = .ok (.iload_n 1, 1) := by decide +kernel
theorem d_La_hear_4 : decode m_La_hear.2.1 4 = .ok (.invokevirtual 34, 3) := by decide +kernel
theorem d_La_hear_7 : decode m_La_hear.2.1 7 = .ok (.i2l, 1) := by decide +kernel
theorem d_La_hear_8 : decode m_La_hear.2.1 8 = .ok (.lastore, 1) := by decide +kernel
theorem d_La_hear_9 : decode m_La_hear.2.1 9 = .ok (.goto 6, 3) := by decide +kernel
theorem d_La_hear_12 : decode m_La_hear.2.1 12 = .ok (.astore_n 3, 1) := by decide +kernel
theorem d_La_hear_13 : decode m_La_hear.2.1 13 = .ok (.iconst 1, 1) := by decide +kernel
theorem d_La_hear_14 : decode m_La_hear.2.1 14 = .ok (.ireturn, 1) := by decide +kernel
theorem d_La_hear_15 : decode m_La_hear.2.1 15 = .ok (.iconst 0, 1) := by decide +kernel
theorem d_La_hear_16 : decode m_La_hear.2.1 16 = .ok (.ireturn, 1) := by decide +kernel
theorem t_La_hear_0 {d : Nat} {st : List Value} {a0 : Nat} {x1 : Int32} {v2 : Value} {o3 : Option Value} {fsb : List Value} {w : qk_W} {nc ns : Nat} {Q : Option Value ⊕ Nat → qk_W → Nat → Nat → Prop} (hv2 : qk_isr v2 = true) (hb : wo w a0 0 fsb) (h8 : ((.int 0 :: v2 :: st).map fun v => Value.category v).sum ≤ 8) (k : Ev d m_Q_hear 0 [some (.ref a0), some (.int x1)] [] w nc ns (fun r w1 nc1 ns1 => match r with | .inl v => Ev (d + 1) m_La_hear 7 [some (.ref a0), some (.int x1), some v2, o3] (v.toList ++ (.int 0 :: v2 :: st)) w1 nc1 ns1 Q | .inr x => ∃ ci q fs hpc, w1 x = some (.inr (ci, fs)) ∧ qcl[ci]? = some q ∧ qk_find "QuakeLinkLaw" q.1 4 m_La_hear.2.2.2.2 hpc ∧ Ev (d + 1) m_La_hear hpc [some (.ref a0), some (.int x1), some v2, o3] [.ref x] w1 nc1 ns1 Q)) : Ev (d + 1) m_La_hear 0 [some (.ref a0), some (.int x1), some v2, o3] st w nc ns Q := by
  refine ev_aload_n d_La_hear_0 rfl hv2 ?_
  refine ev_iconst 0 d_La_hear_1 (by decide) ?_
  refine ev_aload_n d_La_hear_2 rfl rfl ?_
  refine ev_iload_n d_La_hear_3 rfl ?_
  exact ev_callH (M' := m_Q_hear) (As := [.ref a0, .int x1]) (st := (.int 0 :: v2 :: st)) d_La_hear_4 i_Q_hear (fun h => absurd h (by decide +kernel)) cw_La_34 rfl ⟨hb.1, 0, _, _, hb.2, rfl, rfl⟩ rfl (Nat.le_of_ble_eq_true rfl) h8 k
theorem t_La_hear_7 {d : Nat} {st : List Value} {o0 : Option Value} {o1 : Option Value} {o2 : Option Value} {o3 : Option Value} {y0 : Int32} {y1 : Int32} {b2 : Nat} {n2 : Nat} {f3 : Nat → Int64} {w : qk_W} {nc ns : Nat} {Q : Option Value ⊕ Nat → qk_W → Nat → Nat → Prop}  (ha1 : wl w b2 n2 f3) (hi : vp_in y1 n2) (k : Ev d m_La_hear 9 [o0, o1, o2, o3] st (qk_set w b2 (.inl (.long, n2, .inr (.inl (vp_updL f3 y1.toNatClampNeg (Int32.toInt64 y0)))))) nc ns Q) : Ev d m_La_hear 7 [o0, o1, o2, o3] (.int y0 :: .int y1 :: .ref b2 :: st) w nc ns Q := by
  refine ev_i2l d_La_hear_7 ?_
  exact ev_last d_La_hear_8 ha1.1 ha1.2 hi k
theorem t_La_hear_9 {d : Nat} {o0 : Option Value} {o1 : Option Value} {o2 : Option Value} {o3 : Option Value} {w : qk_W} {nc ns : Nat} {Q : Option Value ⊕ Nat → qk_W → Nat → Nat → Prop}   (hq : Q (.inl (some (.int 0))) w nc ns) : Ev d m_La_hear 9 [o0, o1, o2, o3] [] w nc ns Q := by
  refine ev_goto 15 d_La_hear_9 (by decide) ?_
  refine ev_iconst 0 d_La_hear_15 (by decide) ?_
  exact ev_iret d_La_hear_16 rfl rfl hq
theorem t_La_hear_12 {d : Nat} {o0 : Option Value} {o1 : Option Value} {o2 : Option Value} {o3 : Option Value} {s0 : Value} {w : qk_W} {nc ns : Nat} {Q : Option Value ⊕ Nat → qk_W → Nat → Nat → Prop} (hs0 : qk_isr s0 = true) (hc1 : qk_c2 [o0, o1, o2, o3] 3 = true) (hq : Q (.inl (some (.int 1))) w nc ns) : Ev d m_La_hear 12 [o0, o1, o2, o3] [s0] w nc ns Q := by
  refine ev_astore_n d_La_hear_12 hs0 (by decide) hc1 ?_
  refine ev_iconst 1 d_La_hear_13 (by decide) ?_
  exact ev_iret d_La_hear_14 rfl rfl hq
/-! La_lose -/
theorem cw_La_37 : qk_cw "QuakeLinkLaw" m_Q_lose.1 (.invokevirtual 37) := ⟨(lw_i4 _ (List.mem_of_getElem? (i := 51) rfl)), (lw_i4 _ (List.mem_of_getElem? (i := 52) rfl)), (lw_i4 _ (List.mem_of_getElem? (i := 53) rfl))⟩
theorem d_La_lose_0 : decode m_La_lose.2.1 0 = .ok (.aload_n 0, 1) := by decide +kernel
theorem d_La_lose_1 : decode m_La_lose.2.1 1 = .ok (.iload_n 1, 1) := by decide +kernel
theorem d_La_lose_2 : decode m_La_lose.2.1 2 = .ok (.invokevirtual 37, 3) := by decide +kernel
theorem d_La_lose_5 : decode m_La_lose.2.1 5 = .ok (.goto 6, 3) := by decide +kernel
theorem d_La_lose_8 : decode m_La_lose.2.1 8 = .ok (.astore_n 2, 1) := by decide +kernel
theorem d_La_lose_9 : decode m_La_lose.2.1 9 = .ok (.iconst 1, 1) := by decide +kernel
theorem d_La_lose_10 : decode m_La_lose.2.1 10 = .ok (.ireturn, 1) := by decide +kernel
theorem d_La_lose_11 : decode m_La_lose.2.1 11 = .ok (.iconst 0, 1) := by decide +kernel
theorem d_La_lose_12 : decode m_La_lose.2.1 12 = .ok (.ireturn, 1) := by decide +kernel
theorem t_La_lose_0 {d : Nat} {st : List Value} {a0 : Nat} {x1 : Int32} {o2 : Option Value} {fsb : List Value} {w : qk_W} {nc ns : Nat} {Q : Option Value ⊕ Nat → qk_W → Nat → Nat → Prop}  (hb : wo w a0 0 fsb) (h8 : (st.map fun v => Value.category v).sum ≤ 8) (k : Ev d m_Q_lose 0 [some (.ref a0), some (.int x1)] [] w nc ns (fun r w1 nc1 ns1 => match r with | .inl v => Ev (d + 1) m_La_lose 5 [some (.ref a0), some (.int x1), o2] (v.toList ++ st) w1 nc1 ns1 Q | .inr x => ∃ ci q fs hpc, w1 x = some (.inr (ci, fs)) ∧ qcl[ci]? = some q ∧ qk_find "QuakeLinkLaw" q.1 2 m_La_lose.2.2.2.2 hpc ∧ Ev (d + 1) m_La_lose hpc [some (.ref a0), some (.int x1), o2] [.ref x] w1 nc1 ns1 Q)) : Ev (d + 1) m_La_lose 0 [some (.ref a0), some (.int x1), o2] st w nc ns Q := by
  refine ev_aload_n d_La_lose_0 rfl rfl ?_
  refine ev_iload_n d_La_lose_1 rfl ?_
  exact ev_callH (M' := m_Q_lose) (As := [.ref a0, .int x1]) (st := st) d_La_lose_2 i_Q_lose (fun h => absurd h (by decide +kernel)) cw_La_37 rfl ⟨hb.1, 0, _, _, hb.2, rfl, rfl⟩ rfl (Nat.le_of_ble_eq_true rfl) h8 k
theorem t_La_lose_5 {d : Nat} {o0 : Option Value} {o1 : Option Value} {o2 : Option Value} {w : qk_W} {nc ns : Nat} {Q : Option Value ⊕ Nat → qk_W → Nat → Nat → Prop}   (hq : Q (.inl (some (.int 0))) w nc ns) : Ev d m_La_lose 5 [o0, o1, o2] [] w nc ns Q := by
  refine ev_goto 11 d_La_lose_5 (by decide) ?_
  refine ev_iconst 0 d_La_lose_11 (by decide) ?_
  exact ev_iret d_La_lose_12 rfl rfl hq
theorem t_La_lose_8 {d : Nat} {o0 : Option Value} {o1 : Option Value} {o2 : Option Value} {s0 : Value} {w : qk_W} {nc ns : Nat} {Q : Option Value ⊕ Nat → qk_W → Nat → Nat → Prop} (hs0 : qk_isr s0 = true) (hc1 : qk_c2 [o0, o1, o2] 2 = true) (hq : Q (.inl (some (.int 1))) w nc ns) : Ev d m_La_lose 8 [o0, o1, o2] [s0] w nc ns Q := by
  refine ev_astore_n d_La_lose_8 hs0 (by decide) hc1 ?_
  refine ev_iconst 1 d_La_lose_9 (by decide) ?_
  exact ev_iret d_La_lose_10 rfl rfl hq
/-! La_length -/
theorem cw_La_40 : qk_cw "QuakeLinkLaw" m_Q_length.1 (.invokevirtual 40) := ⟨(lw_i4 _ (List.mem_of_getElem? (i := 58) rfl)), (lw_i4 _ (List.mem_of_getElem? (i := 59) rfl)), (lw_i4 _ (List.mem_of_getElem? (i := 60) rfl))⟩
theorem d_La_length_0 : decode m_La_length.2.1 0 = .ok (.aload_n 2, 1) := by decide +kernel
theorem d_La_length_1 : decode m_La_length.2.1 1 = .ok (.iconst 0, 1) := by decide +kernel
theorem d_La_length_2 : decode m_La_length.2.1 2 = .ok (.aload_n 0, 1) := by decide +kernel
theorem d_La_length_3 : decode m_La_length.2.1 3 = .ok (.iload_n 1, 1) := by decide +kernel
theorem d_La_length_4 : decode m_La_length.2.1 4 = .ok (.invokevirtual 40, 3) := by decide +kernel
theorem d_La_length_7 : decode m_La_length.2.1 7 = .ok (.i2l, 1) := by decide +kernel
theorem d_La_length_8 : decode m_La_length.2.1 8 = .ok (.lastore, 1) := by decide +kernel
theorem d_La_length_9 : decode m_La_length.2.1 9 = .ok (.goto 6, 3) := by decide +kernel
theorem d_La_length_12 : decode m_La_length.2.1 12 = .ok (.astore_n 3, 1) := by decide +kernel
theorem d_La_length_13 : decode m_La_length.2.1 13 = .ok (.iconst 1, 1) := by decide +kernel
theorem d_La_length_14 : decode m_La_length.2.1 14 = .ok (.ireturn, 1) := by decide +kernel
theorem d_La_length_15 : decode m_La_length.2.1 15 = .ok (.iconst 0, 1) := by decide +kernel
theorem d_La_length_16 : decode m_La_length.2.1 16 = .ok (.ireturn, 1) := by decide +kernel
theorem t_La_length_0 {d : Nat} {st : List Value} {a0 : Nat} {x1 : Int32} {v2 : Value} {o3 : Option Value} {fsb : List Value} {w : qk_W} {nc ns : Nat} {Q : Option Value ⊕ Nat → qk_W → Nat → Nat → Prop} (hv2 : qk_isr v2 = true) (hb : wo w a0 0 fsb) (h8 : ((.int 0 :: v2 :: st).map fun v => Value.category v).sum ≤ 8) (k : Ev d m_Q_length 0 [some (.ref a0), some (.int x1)] [] w nc ns (fun r w1 nc1 ns1 => match r with | .inl v => Ev (d + 1) m_La_length 7 [some (.ref a0), some (.int x1), some v2, o3] (v.toList ++ (.int 0 :: v2 :: st)) w1 nc1 ns1 Q | .inr x => ∃ ci q fs hpc, w1 x = some (.inr (ci, fs)) ∧ qcl[ci]? = some q ∧ qk_find "QuakeLinkLaw" q.1 4 m_La_length.2.2.2.2 hpc ∧ Ev (d + 1) m_La_length hpc [some (.ref a0), some (.int x1), some v2, o3] [.ref x] w1 nc1 ns1 Q)) : Ev (d + 1) m_La_length 0 [some (.ref a0), some (.int x1), some v2, o3] st w nc ns Q := by
  refine ev_aload_n d_La_length_0 rfl hv2 ?_
  refine ev_iconst 0 d_La_length_1 (by decide) ?_
  refine ev_aload_n d_La_length_2 rfl rfl ?_
  refine ev_iload_n d_La_length_3 rfl ?_
  exact ev_callH (M' := m_Q_length) (As := [.ref a0, .int x1]) (st := (.int 0 :: v2 :: st)) d_La_length_4 i_Q_length (fun h => absurd h (by decide +kernel)) cw_La_40 rfl ⟨hb.1, 0, _, _, hb.2, rfl, rfl⟩ rfl (Nat.le_of_ble_eq_true rfl) h8 k
theorem t_La_length_7 {d : Nat} {st : List Value} {o0 : Option Value} {o1 : Option Value} {o2 : Option Value} {o3 : Option Value} {y0 : Int32} {y1 : Int32} {b2 : Nat} {n2 : Nat} {f3 : Nat → Int64} {w : qk_W} {nc ns : Nat} {Q : Option Value ⊕ Nat → qk_W → Nat → Nat → Prop}  (ha1 : wl w b2 n2 f3) (hi : vp_in y1 n2) (k : Ev d m_La_length 9 [o0, o1, o2, o3] st (qk_set w b2 (.inl (.long, n2, .inr (.inl (vp_updL f3 y1.toNatClampNeg (Int32.toInt64 y0)))))) nc ns Q) : Ev d m_La_length 7 [o0, o1, o2, o3] (.int y0 :: .int y1 :: .ref b2 :: st) w nc ns Q := by
  refine ev_i2l d_La_length_7 ?_
  exact ev_last d_La_length_8 ha1.1 ha1.2 hi k
theorem t_La_length_9 {d : Nat} {o0 : Option Value} {o1 : Option Value} {o2 : Option Value} {o3 : Option Value} {w : qk_W} {nc ns : Nat} {Q : Option Value ⊕ Nat → qk_W → Nat → Nat → Prop}   (hq : Q (.inl (some (.int 0))) w nc ns) : Ev d m_La_length 9 [o0, o1, o2, o3] [] w nc ns Q := by
  refine ev_goto 15 d_La_length_9 (by decide) ?_
  refine ev_iconst 0 d_La_length_15 (by decide) ?_
  exact ev_iret d_La_length_16 rfl rfl hq
theorem t_La_length_12 {d : Nat} {o0 : Option Value} {o1 : Option Value} {o2 : Option Value} {o3 : Option Value} {s0 : Value} {w : qk_W} {nc ns : Nat} {Q : Option Value ⊕ Nat → qk_W → Nat → Nat → Prop} (hs0 : qk_isr s0 = true) (hc1 : qk_c2 [o0, o1, o2, o3] 3 = true) (hq : Q (.inl (some (.int 1))) w nc ns) : Ev d m_La_length 12 [o0, o1, o2, o3] [s0] w nc ns Q := by
  refine ev_astore_n d_La_length_12 hs0 (by decide) hc1 ?_
  refine ev_iconst 1 d_La_length_13 (by decide) ?_
  exact ev_iret d_La_length_14 rfl rfl hq
/-! La_air -/
theorem cw_La_43 : qk_cw "QuakeLinkLaw" m_Q_air.1 (.invokevirtual 43) := ⟨(lw_i4 _ (List.mem_of_getElem? (i := 65) rfl)), (lw_i4 _ (List.mem_of_getElem? (i := 66) rfl)), (lw_i4 _ (List.mem_of_getElem? (i := 67) rfl))⟩
theorem d_La_air_0 : decode m_La_air.2.1 0 = .ok (.aload_n 3, 1) := by decide +kernel
theorem d_La_air_1 : decode m_La_air.2.1 1 = .ok (.iconst 0, 1) := by decide +kernel
theorem d_La_air_2 : decode m_La_air.2.1 2 = .ok (.aload_n 0, 1) := by decide +kernel
theorem d_La_air_3 : decode m_La_air.2.1 3 = .ok (.iload_n 1, 1) := by decide +kernel
theorem d_La_air_4 : decode m_La_air.2.1 4 = .ok (.iload_n 2, 1) := by decide +kernel
theorem d_La_air_5 : decode m_La_air.2.1 5 = .ok (.invokevirtual 43, 3) := by decide +kernel
theorem d_La_air_8 : decode m_La_air.2.1 8 = .ok (.i2l, 1) := by decide +kernel
theorem d_La_air_9 : decode m_La_air.2.1 9 = .ok (.lastore, 1) := by decide +kernel
theorem d_La_air_10 : decode m_La_air.2.1 10 = .ok (.goto 7, 3) := by decide +kernel
theorem d_La_air_13 : decode m_La_air.2.1 13 = .ok (.astore 4, 2) := by decide +kernel
theorem d_La_air_15 : decode m_La_air.2.1 15 = .ok (.iconst 1, 1) := by decide +kernel
theorem d_La_air_16 : decode m_La_air.2.1 16 = .ok (.ireturn, 1) := by decide +kernel
theorem d_La_air_17 : decode m_La_air.2.1 17 = .ok (.iconst 0, 1) := by decide +kernel
theorem d_La_air_18 : decode m_La_air.2.1 18 = .ok (.ireturn, 1) := by decide +kernel
theorem t_La_air_0 {d : Nat} {st : List Value} {a0 : Nat} {x1 : Int32} {x2 : Int32} {v3 : Value} {o4 : Option Value} {fsb : List Value} {w : qk_W} {nc ns : Nat} {Q : Option Value ⊕ Nat → qk_W → Nat → Nat → Prop} (hv3 : qk_isr v3 = true) (hb : wo w a0 0 fsb) (h8 : ((.int 0 :: v3 :: st).map fun v => Value.category v).sum ≤ 8) (k : Ev d m_Q_air 0 [some (.ref a0), some (.int x1), some (.int x2)] [] w nc ns (fun r w1 nc1 ns1 => match r with | .inl v => Ev (d + 1) m_La_air 8 [some (.ref a0), some (.int x1), some (.int x2), some v3, o4] (v.toList ++ (.int 0 :: v3 :: st)) w1 nc1 ns1 Q | .inr x => ∃ ci q fs hpc, w1 x = some (.inr (ci, fs)) ∧ qcl[ci]? = some q ∧ qk_find "QuakeLinkLaw" q.1 5 m_La_air.2.2.2.2 hpc ∧ Ev (d + 1) m_La_air hpc [some (.ref a0), some (.int x1), some (.int x2), some v3, o4] [.ref x] w1 nc1 ns1 Q)) : Ev (d + 1) m_La_air 0 [some (.ref a0), some (.int x1), some (.int x2), some v3, o4] st w nc ns Q := by
  refine ev_aload_n d_La_air_0 rfl hv3 ?_
  refine ev_iconst 0 d_La_air_1 (by decide) ?_
  refine ev_aload_n d_La_air_2 rfl rfl ?_
  refine ev_iload_n d_La_air_3 rfl ?_
  refine ev_iload_n d_La_air_4 rfl ?_
  exact ev_callH (M' := m_Q_air) (As := [.ref a0, .int x1, .int x2]) (st := (.int 0 :: v3 :: st)) d_La_air_5 i_Q_air (fun h => absurd h (by decide +kernel)) cw_La_43 rfl ⟨hb.1, 0, _, _, hb.2, rfl, rfl⟩ rfl (Nat.le_of_ble_eq_true rfl) h8 k
theorem t_La_air_8 {d : Nat} {st : List Value} {o0 : Option Value} {o1 : Option Value} {o2 : Option Value} {o3 : Option Value} {o4 : Option Value} {y0 : Int32} {y1 : Int32} {b2 : Nat} {n2 : Nat} {f3 : Nat → Int64} {w : qk_W} {nc ns : Nat} {Q : Option Value ⊕ Nat → qk_W → Nat → Nat → Prop}  (ha1 : wl w b2 n2 f3) (hi : vp_in y1 n2) (k : Ev d m_La_air 10 [o0, o1, o2, o3, o4] st (qk_set w b2 (.inl (.long, n2, .inr (.inl (vp_updL f3 y1.toNatClampNeg (Int32.toInt64 y0)))))) nc ns Q) : Ev d m_La_air 8 [o0, o1, o2, o3, o4] (.int y0 :: .int y1 :: .ref b2 :: st) w nc ns Q := by
  refine ev_i2l d_La_air_8 ?_
  exact ev_last d_La_air_9 ha1.1 ha1.2 hi k
theorem t_La_air_10 {d : Nat} {o0 : Option Value} {o1 : Option Value} {o2 : Option Value} {o3 : Option Value} {o4 : Option Value} {w : qk_W} {nc ns : Nat} {Q : Option Value ⊕ Nat → qk_W → Nat → Nat → Prop}   (hq : Q (.inl (some (.int 0))) w nc ns) : Ev d m_La_air 10 [o0, o1, o2, o3, o4] [] w nc ns Q := by
  refine ev_goto 17 d_La_air_10 (by decide) ?_
  refine ev_iconst 0 d_La_air_17 (by decide) ?_
  exact ev_iret d_La_air_18 rfl rfl hq
theorem t_La_air_13 {d : Nat} {o0 : Option Value} {o1 : Option Value} {o2 : Option Value} {o3 : Option Value} {o4 : Option Value} {s0 : Value} {w : qk_W} {nc ns : Nat} {Q : Option Value ⊕ Nat → qk_W → Nat → Nat → Prop} (hs0 : qk_isr s0 = true) (hc1 : qk_c2 [o0, o1, o2, o3, o4] 4 = true) (hq : Q (.inl (some (.int 1))) w nc ns) : Ev d m_La_air 13 [o0, o1, o2, o3, o4] [s0] w nc ns Q := by
  refine ev_astore d_La_air_13 hs0 (by decide) hc1 ?_
  refine ev_iconst 1 d_La_air_15 (by decide) ?_
  exact ev_iret d_La_air_16 rfl rfl hq
/-! La_spoil -/
theorem cw_La_46 : qk_cw "QuakeLinkLaw" m_Q_spoil.1 (.invokevirtual 46) := ⟨(lw_i4 _ (List.mem_of_getElem? (i := 77) rfl)), (lw_i4 _ (List.mem_of_getElem? (i := 78) rfl)), (lw_i4 _ (List.mem_of_getElem? (i := 79) rfl))⟩
theorem d_La_spoil_0 : decode m_La_spoil.2.1 0 = .ok (.aload_n 0, 1) := by decide +kernel
theorem d_La_spoil_1 : decode m_La_spoil.2.1 1 = .ok (.iload_n 1, 1) := by decide +kernel
theorem d_La_spoil_2 : decode m_La_spoil.2.1 2 = .ok (.iload_n 2, 1) := by decide +kernel
theorem d_La_spoil_3 : decode m_La_spoil.2.1 3 = .ok (.iload_n 3, 1) := by decide +kernel
theorem d_La_spoil_4 : decode m_La_spoil.2.1 4 = .ok (.invokevirtual 46, 3) := by decide +kernel
theorem d_La_spoil_7 : decode m_La_spoil.2.1 7 = .ok (.goto 7, 3) := by decide +kernel
theorem d_La_spoil_10 : decode m_La_spoil.2.1 10 = .ok (.astore 4, 2) := by decide +kernel
theorem d_La_spoil_12 : decode m_La_spoil.2.1 12 = .ok (.iconst 1, 1) := by decide +kernel
theorem d_La_spoil_13 : decode m_La_spoil.2.1 13 = .ok (.ireturn, 1) := by decide +kernel
theorem d_La_spoil_14 : decode m_La_spoil.2.1 14 = .ok (.iconst 0, 1) := by decide +kernel
theorem d_La_spoil_15 : decode m_La_spoil.2.1 15 = .ok (.ireturn, 1) := by decide +kernel
theorem t_La_spoil_0 {d : Nat} {st : List Value} {a0 : Nat} {x1 : Int32} {x2 : Int32} {x3 : Int32} {o4 : Option Value} {fsb : List Value} {w : qk_W} {nc ns : Nat} {Q : Option Value ⊕ Nat → qk_W → Nat → Nat → Prop}  (hb : wo w a0 0 fsb) (h8 : (st.map fun v => Value.category v).sum ≤ 8) (k : Ev d m_Q_spoil 0 [some (.ref a0), some (.int x1), some (.int x2), some (.int x3), none] [] w nc ns (fun r w1 nc1 ns1 => match r with | .inl v => Ev (d + 1) m_La_spoil 7 [some (.ref a0), some (.int x1), some (.int x2), some (.int x3), o4] (v.toList ++ st) w1 nc1 ns1 Q | .inr x => ∃ ci q fs hpc, w1 x = some (.inr (ci, fs)) ∧ qcl[ci]? = some q ∧ qk_find "QuakeLinkLaw" q.1 4 m_La_spoil.2.2.2.2 hpc ∧ Ev (d + 1) m_La_spoil hpc [some (.ref a0), some (.int x1), some (.int x2), some (.int x3), o4] [.ref x] w1 nc1 ns1 Q)) : Ev (d + 1) m_La_spoil 0 [some (.ref a0), some (.int x1), some (.int x2), some (.int x3), o4] st w nc ns Q := by
  refine ev_aload_n d_La_spoil_0 rfl rfl ?_
  refine ev_iload_n d_La_spoil_1 rfl ?_
  refine ev_iload_n d_La_spoil_2 rfl ?_
  refine ev_iload_n d_La_spoil_3 rfl ?_
  exact ev_callH (M' := m_Q_spoil) (As := [.ref a0, .int x1, .int x2, .int x3]) (st := st) d_La_spoil_4 i_Q_spoil (fun h => absurd h (by decide +kernel)) cw_La_46 rfl ⟨hb.1, 0, _, _, hb.2, rfl, rfl⟩ rfl (Nat.le_of_ble_eq_true rfl) h8 k
theorem t_La_spoil_7 {d : Nat} {o0 : Option Value} {o1 : Option Value} {o2 : Option Value} {o3 : Option Value} {o4 : Option Value} {w : qk_W} {nc ns : Nat} {Q : Option Value ⊕ Nat → qk_W → Nat → Nat → Prop}   (hq : Q (.inl (some (.int 0))) w nc ns) : Ev d m_La_spoil 7 [o0, o1, o2, o3, o4] [] w nc ns Q := by
  refine ev_goto 14 d_La_spoil_7 (by decide) ?_
  refine ev_iconst 0 d_La_spoil_14 (by decide) ?_
  exact ev_iret d_La_spoil_15 rfl rfl hq
theorem t_La_spoil_10 {d : Nat} {o0 : Option Value} {o1 : Option Value} {o2 : Option Value} {o3 : Option Value} {o4 : Option Value} {s0 : Value} {w : qk_W} {nc ns : Nat} {Q : Option Value ⊕ Nat → qk_W → Nat → Nat → Prop} (hs0 : qk_isr s0 = true) (hc1 : qk_c2 [o0, o1, o2, o3, o4] 4 = true) (hq : Q (.inl (some (.int 1))) w nc ns) : Ev d m_La_spoil 10 [o0, o1, o2, o3, o4] [s0] w nc ns Q := by
  refine ev_astore d_La_spoil_10 hs0 (by decide) hc1 ?_
  refine ev_iconst 1 d_La_spoil_12 (by decide) ?_
  exact ev_iret d_La_spoil_13 rfl rfl hq
/-! La_mend -/
theorem cw_La_50 : qk_cw "QuakeLinkLaw" m_Q_mend.1 (.invokevirtual 50) := ⟨(lw_i4 _ (List.mem_of_getElem? (i := 84) rfl)), (lw_i4 _ (List.mem_of_getElem? (i := 85) rfl)), (lw_i4 _ (List.mem_of_getElem? (i := 86) rfl))⟩
theorem d_La_mend_0 : decode m_La_mend.2.1 0 = .ok (.aload_n 0, 1) := by decide +kernel
theorem d_La_mend_1 : decode m_La_mend.2.1 1 = .ok (.iload_n 1, 1) := by decide +kernel
theorem d_La_mend_2 : decode m_La_mend.2.1 2 = .ok (.invokevirtual 50, 3) := by decide +kernel
theorem d_La_mend_5 : decode m_La_mend.2.1 5 = .ok (.goto 6, 3) := by decide +kernel
theorem d_La_mend_8 : decode m_La_mend.2.1 8 = .ok (.astore_n 2, 1) := by decide +kernel
theorem d_La_mend_9 : decode m_La_mend.2.1 9 = .ok (.iconst 1, 1) := by decide +kernel
theorem d_La_mend_10 : decode m_La_mend.2.1 10 = .ok (.ireturn, 1) := by decide +kernel
theorem d_La_mend_11 : decode m_La_mend.2.1 11 = .ok (.iconst 0, 1) := by decide +kernel
theorem d_La_mend_12 : decode m_La_mend.2.1 12 = .ok (.ireturn, 1) := by decide +kernel
theorem t_La_mend_0 {d : Nat} {st : List Value} {a0 : Nat} {x1 : Int32} {o2 : Option Value} {fsb : List Value} {w : qk_W} {nc ns : Nat} {Q : Option Value ⊕ Nat → qk_W → Nat → Nat → Prop}  (hb : wo w a0 0 fsb) (h8 : (st.map fun v => Value.category v).sum ≤ 8) (k : Ev d m_Q_mend 0 [some (.ref a0), some (.int x1)] [] w nc ns (fun r w1 nc1 ns1 => match r with | .inl v => Ev (d + 1) m_La_mend 5 [some (.ref a0), some (.int x1), o2] (v.toList ++ st) w1 nc1 ns1 Q | .inr x => ∃ ci q fs hpc, w1 x = some (.inr (ci, fs)) ∧ qcl[ci]? = some q ∧ qk_find "QuakeLinkLaw" q.1 2 m_La_mend.2.2.2.2 hpc ∧ Ev (d + 1) m_La_mend hpc [some (.ref a0), some (.int x1), o2] [.ref x] w1 nc1 ns1 Q)) : Ev (d + 1) m_La_mend 0 [some (.ref a0), some (.int x1), o2] st w nc ns Q := by
  refine ev_aload_n d_La_mend_0 rfl rfl ?_
  refine ev_iload_n d_La_mend_1 rfl ?_
  exact ev_callH (M' := m_Q_mend) (As := [.ref a0, .int x1]) (st := st) d_La_mend_2 i_Q_mend (fun h => absurd h (by decide +kernel)) cw_La_50 rfl ⟨hb.1, 0, _, _, hb.2, rfl, rfl⟩ rfl (Nat.le_of_ble_eq_true rfl) h8 k
theorem t_La_mend_5 {d : Nat} {o0 : Option Value} {o1 : Option Value} {o2 : Option Value} {w : qk_W} {nc ns : Nat} {Q : Option Value ⊕ Nat → qk_W → Nat → Nat → Prop}   (hq : Q (.inl (some (.int 0))) w nc ns) : Ev d m_La_mend 5 [o0, o1, o2] [] w nc ns Q := by
  refine ev_goto 11 d_La_mend_5 (by decide) ?_
  refine ev_iconst 0 d_La_mend_11 (by decide) ?_
  exact ev_iret d_La_mend_12 rfl rfl hq
theorem t_La_mend_8 {d : Nat} {o0 : Option Value} {o1 : Option Value} {o2 : Option Value} {s0 : Value} {w : qk_W} {nc ns : Nat} {Q : Option Value ⊕ Nat → qk_W → Nat → Nat → Prop} (hs0 : qk_isr s0 = true) (hc1 : qk_c2 [o0, o1, o2] 2 = true) (hq : Q (.inl (some (.int 1))) w nc ns) : Ev d m_La_mend 8 [o0, o1, o2] [s0] w nc ns Q := by
  refine ev_astore_n d_La_mend_8 hs0 (by decide) hc1 ?_
  refine ev_iconst 1 d_La_mend_9 (by decide) ?_
  exact ev_iret d_La_mend_10 rfl rfl hq
/-! La_has -/
theorem cw_La_53 : qk_cw "QuakeLinkLaw" m_Q_has.1 (.invokevirtual 53) := ⟨(lw_i4 _ (List.mem_of_getElem? (i := 92) rfl)), (lw_i4 _ (List.mem_of_getElem? (i := 93) rfl)), (lw_i4 _ (List.mem_of_getElem? (i := 94) rfl))⟩
theorem d_La_has_0 : decode m_La_has.2.1 0 = .ok (.aload_n 3, 1) := by decide +kernel
theorem d_La_has_1 : decode m_La_has.2.1 1 = .ok (.iconst 0, 1) := by decide +kernel
theorem d_La_has_2 : decode m_La_has.2.1 2 = .ok (.aload_n 0, 1) := by decide +kernel
theorem d_La_has_3 : decode m_La_has.2.1 3 = .ok (.iload_n 1, 1) := by decide +kernel
theorem d_La_has_4 : decode m_La_has.2.1 4 = .ok (.iload_n 2, 1) := by decide +kernel
theorem d_La_has_5 : decode m_La_has.2.1 5 = .ok (.invokevirtual 53, 3) := by decide +kernel
theorem d_La_has_8 : decode m_La_has.2.1 8 = .ok (.ifCond .eq 7, 3) := by decide +kernel
theorem d_La_has_11 : decode m_La_has.2.1 11 = .ok (.lconst 1, 1) := by decide +kernel
theorem d_La_has_12 : decode m_La_has.2.1 12 = .ok (.goto 4, 3) := by decide +kernel
theorem d_La_has_15 : decode m_La_has.2.1 15 = .ok (.lconst 0, 1) := by decide +kernel
theorem d_La_has_16 : decode m_La_has.2.1 16 = .ok (.lastore, 1) := by decide +kernel
theorem d_La_has_17 : decode m_La_has.2.1 17 = .ok (.goto 7, 3) := by decide +kernel
theorem d_La_has_20 : decode m_La_has.2.1 20 = .ok (.astore 4, 2) := by decide +kernel
theorem d_La_has_22 : decode m_La_has.2.1 22 = .ok (.iconst 1, 1) := by decide +kernel
theorem d_La_has_23 : decode m_La_has.2.1 23 = .ok (.ireturn, 1) := by decide +kernel
theorem d_La_has_24 : decode m_La_has.2.1 24 = .ok (.iconst 0, 1) := by decide +kernel
theorem d_La_has_25 : decode m_La_has.2.1 25 = .ok (.ireturn, 1) := by decide +kernel
theorem t_La_has_0 {d : Nat} {st : List Value} {a0 : Nat} {x1 : Int32} {x2 : Int32} {v3 : Value} {o4 : Option Value} {fsb : List Value} {w : qk_W} {nc ns : Nat} {Q : Option Value ⊕ Nat → qk_W → Nat → Nat → Prop} (hv3 : qk_isr v3 = true) (hb : wo w a0 0 fsb) (h8 : ((.int 0 :: v3 :: st).map fun v => Value.category v).sum ≤ 8) (k : Ev d m_Q_has 0 [some (.ref a0), some (.int x1), some (.int x2)] [] w nc ns (fun r w1 nc1 ns1 => match r with | .inl v => Ev (d + 1) m_La_has 8 [some (.ref a0), some (.int x1), some (.int x2), some v3, o4] (v.toList ++ (.int 0 :: v3 :: st)) w1 nc1 ns1 Q | .inr x => ∃ ci q fs hpc, w1 x = some (.inr (ci, fs)) ∧ qcl[ci]? = some q ∧ qk_find "QuakeLinkLaw" q.1 5 m_La_has.2.2.2.2 hpc ∧ Ev (d + 1) m_La_has hpc [some (.ref a0), some (.int x1), some (.int x2), some v3, o4] [.ref x] w1 nc1 ns1 Q)) : Ev (d + 1) m_La_has 0 [some (.ref a0), some (.int x1), some (.int x2), some v3, o4] st w nc ns Q := by
  refine ev_aload_n d_La_has_0 rfl hv3 ?_
  refine ev_iconst 0 d_La_has_1 (by decide) ?_
  refine ev_aload_n d_La_has_2 rfl rfl ?_
  refine ev_iload_n d_La_has_3 rfl ?_
  refine ev_iload_n d_La_has_4 rfl ?_
  exact ev_callH (M' := m_Q_has) (As := [.ref a0, .int x1, .int x2]) (st := (.int 0 :: v3 :: st)) d_La_has_5 i_Q_has (fun h => absurd h (by decide +kernel)) cw_La_53 rfl ⟨hb.1, 0, _, _, hb.2, rfl, rfl⟩ rfl (Nat.le_of_ble_eq_true rfl) h8 k
theorem t_La_has_8 {d : Nat} {st : List Value} {o0 : Option Value} {o1 : Option Value} {o2 : Option Value} {o3 : Option Value} {o4 : Option Value} {y0 : Int32} {w : qk_W} {nc ns : Nat} {Q : Option Value ⊕ Nat → qk_W → Nat → Nat → Prop}   (kt : y0 = 0 → Ev d m_La_has 15 [o0, o1, o2, o3, o4] st w nc ns Q) (kf : ¬ (y0 = 0) → Ev d m_La_has 11 [o0, o1, o2, o3, o4] st w nc ns Q) : Ev d m_La_has 8 [o0, o1, o2, o3, o4] (.int y0 :: st) w nc ns Q := by
  exact ev_if_eq 15 d_La_has_8 (by decide) kt kf
theorem t_La_has_11 {d : Nat} {st : List Value} {o0 : Option Value} {o1 : Option Value} {o2 : Option Value} {o3 : Option Value} {o4 : Option Value} {y0 : Int32} {b1 : Nat} {n2 : Nat} {f3 : Nat → Int64} {w : qk_W} {nc ns : Nat} {Q : Option Value ⊕ Nat → qk_W → Nat → Nat → Prop}  (ha1 : wl w b1 n2 f3) (hi : vp_in y0 n2) (k : Ev d m_La_has 17 [o0, o1, o2, o3, o4] st (qk_set w b1 (.inl (.long, n2, .inr (.inl (vp_updL f3 y0.toNatClampNeg 1))))) nc ns Q) : Ev d m_La_has 11 [o0, o1, o2, o3, o4] (.int y0 :: .ref b1 :: st) w nc ns Q := by
  refine ev_lconst 1 d_La_has_11 (by decide) ?_
  refine ev_goto 16 d_La_has_12 (by decide) ?_
  exact ev_last d_La_has_16 ha1.1 ha1.2 hi k
theorem t_La_has_15 {d : Nat} {st : List Value} {o0 : Option Value} {o1 : Option Value} {o2 : Option Value} {o3 : Option Value} {o4 : Option Value} {y0 : Int32} {b1 : Nat} {n2 : Nat} {f3 : Nat → Int64} {w : qk_W} {nc ns : Nat} {Q : Option Value ⊕ Nat → qk_W → Nat → Nat → Prop}  (ha1 : wl w b1 n2 f3) (hi : vp_in y0 n2) (k : Ev d m_La_has 17 [o0, o1, o2, o3, o4] st (qk_set w b1 (.inl (.long, n2, .inr (.inl (vp_updL f3 y0.toNatClampNeg 0))))) nc ns Q) : Ev d m_La_has 15 [o0, o1, o2, o3, o4] (.int y0 :: .ref b1 :: st) w nc ns Q := by
  refine ev_lconst 0 d_La_has_15 (by decide) ?_
  exact ev_last d_La_has_16 ha1.1 ha1.2 hi k
theorem t_La_has_17 {d : Nat} {o0 : Option Value} {o1 : Option Value} {o2 : Option Value} {o3 : Option Value} {o4 : Option Value} {w : qk_W} {nc ns : Nat} {Q : Option Value ⊕ Nat → qk_W → Nat → Nat → Prop}   (hq : Q (.inl (some (.int 0))) w nc ns) : Ev d m_La_has 17 [o0, o1, o2, o3, o4] [] w nc ns Q := by
  refine ev_goto 24 d_La_has_17 (by decide) ?_
  refine ev_iconst 0 d_La_has_24 (by decide) ?_
  exact ev_iret d_La_has_25 rfl rfl hq
theorem t_La_has_20 {d : Nat} {o0 : Option Value} {o1 : Option Value} {o2 : Option Value} {o3 : Option Value} {o4 : Option Value} {s0 : Value} {w : qk_W} {nc ns : Nat} {Q : Option Value ⊕ Nat → qk_W → Nat → Nat → Prop} (hs0 : qk_isr s0 = true) (hc1 : qk_c2 [o0, o1, o2, o3, o4] 4 = true) (hq : Q (.inl (some (.int 1))) w nc ns) : Ev d m_La_has 20 [o0, o1, o2, o3, o4] [s0] w nc ns Q := by
  refine ev_astore d_La_has_20 hs0 (by decide) hc1 ?_
  refine ev_iconst 1 d_La_has_22 (by decide) ?_
  exact ev_iret d_La_has_23 rfl rfl hq
/-! La_at -/
theorem cw_La_57 : qk_cw "QuakeLinkLaw" m_Q_at.1 (.invokevirtual 57) := ⟨(lw_i4 _ (List.mem_of_getElem? (i := 104) rfl)), (lw_i4 _ (List.mem_of_getElem? (i := 105) rfl)), (lw_i4 _ (List.mem_of_getElem? (i := 106) rfl))⟩
theorem d_La_at_0 : decode m_La_at.2.1 0 = .ok (.aload_n 3, 1) := by decide +kernel
theorem d_La_at_1 : decode m_La_at.2.1 1 = .ok (.iconst 0, 1) := by decide +kernel
theorem d_La_at_2 : decode m_La_at.2.1 2 = .ok (.aload_n 0, 1) := by decide +kernel
theorem d_La_at_3 : decode m_La_at.2.1 3 = .ok (.iload_n 1, 1) := by decide +kernel
theorem d_La_at_4 : decode m_La_at.2.1 4 = .ok (.iload_n 2, 1) := by decide +kernel
theorem d_La_at_5 : decode m_La_at.2.1 5 = .ok (.invokevirtual 57, 3) := by decide +kernel
theorem d_La_at_8 : decode m_La_at.2.1 8 = .ok (.i2l, 1) := by decide +kernel
theorem d_La_at_9 : decode m_La_at.2.1 9 = .ok (.lastore, 1) := by decide +kernel
theorem d_La_at_10 : decode m_La_at.2.1 10 = .ok (.goto 7, 3) := by decide +kernel
theorem d_La_at_13 : decode m_La_at.2.1 13 = .ok (.astore 4, 2) := by decide +kernel
theorem d_La_at_15 : decode m_La_at.2.1 15 = .ok (.iconst 1, 1) := by decide +kernel
theorem d_La_at_16 : decode m_La_at.2.1 16 = .ok (.ireturn, 1) := by decide +kernel
theorem d_La_at_17 : decode m_La_at.2.1 17 = .ok (.iconst 0, 1) := by decide +kernel
theorem d_La_at_18 : decode m_La_at.2.1 18 = .ok (.ireturn, 1) := by decide +kernel
theorem t_La_at_0 {d : Nat} {st : List Value} {a0 : Nat} {x1 : Int32} {x2 : Int32} {v3 : Value} {o4 : Option Value} {fsb : List Value} {w : qk_W} {nc ns : Nat} {Q : Option Value ⊕ Nat → qk_W → Nat → Nat → Prop} (hv3 : qk_isr v3 = true) (hb : wo w a0 0 fsb) (h8 : ((.int 0 :: v3 :: st).map fun v => Value.category v).sum ≤ 8) (k : Ev d m_Q_at 0 [some (.ref a0), some (.int x1), some (.int x2)] [] w nc ns (fun r w1 nc1 ns1 => match r with | .inl v => Ev (d + 1) m_La_at 8 [some (.ref a0), some (.int x1), some (.int x2), some v3, o4] (v.toList ++ (.int 0 :: v3 :: st)) w1 nc1 ns1 Q | .inr x => ∃ ci q fs hpc, w1 x = some (.inr (ci, fs)) ∧ qcl[ci]? = some q ∧ qk_find "QuakeLinkLaw" q.1 5 m_La_at.2.2.2.2 hpc ∧ Ev (d + 1) m_La_at hpc [some (.ref a0), some (.int x1), some (.int x2), some v3, o4] [.ref x] w1 nc1 ns1 Q)) : Ev (d + 1) m_La_at 0 [some (.ref a0), some (.int x1), some (.int x2), some v3, o4] st w nc ns Q := by
  refine ev_aload_n d_La_at_0 rfl hv3 ?_
  refine ev_iconst 0 d_La_at_1 (by decide) ?_
  refine ev_aload_n d_La_at_2 rfl rfl ?_
  refine ev_iload_n d_La_at_3 rfl ?_
  refine ev_iload_n d_La_at_4 rfl ?_
  exact ev_callH (M' := m_Q_at) (As := [.ref a0, .int x1, .int x2]) (st := (.int 0 :: v3 :: st)) d_La_at_5 i_Q_at (fun h => absurd h (by decide +kernel)) cw_La_57 rfl ⟨hb.1, 0, _, _, hb.2, rfl, rfl⟩ rfl (Nat.le_of_ble_eq_true rfl) h8 k
theorem t_La_at_8 {d : Nat} {st : List Value} {o0 : Option Value} {o1 : Option Value} {o2 : Option Value} {o3 : Option Value} {o4 : Option Value} {y0 : Int32} {y1 : Int32} {b2 : Nat} {n2 : Nat} {f3 : Nat → Int64} {w : qk_W} {nc ns : Nat} {Q : Option Value ⊕ Nat → qk_W → Nat → Nat → Prop}  (ha1 : wl w b2 n2 f3) (hi : vp_in y1 n2) (k : Ev d m_La_at 10 [o0, o1, o2, o3, o4] st (qk_set w b2 (.inl (.long, n2, .inr (.inl (vp_updL f3 y1.toNatClampNeg (Int32.toInt64 y0)))))) nc ns Q) : Ev d m_La_at 8 [o0, o1, o2, o3, o4] (.int y0 :: .int y1 :: .ref b2 :: st) w nc ns Q := by
  refine ev_i2l d_La_at_8 ?_
  exact ev_last d_La_at_9 ha1.1 ha1.2 hi k
theorem t_La_at_10 {d : Nat} {o0 : Option Value} {o1 : Option Value} {o2 : Option Value} {o3 : Option Value} {o4 : Option Value} {w : qk_W} {nc ns : Nat} {Q : Option Value ⊕ Nat → qk_W → Nat → Nat → Prop}   (hq : Q (.inl (some (.int 0))) w nc ns) : Ev d m_La_at 10 [o0, o1, o2, o3, o4] [] w nc ns Q := by
  refine ev_goto 17 d_La_at_10 (by decide) ?_
  refine ev_iconst 0 d_La_at_17 (by decide) ?_
  exact ev_iret d_La_at_18 rfl rfl hq
theorem t_La_at_13 {d : Nat} {o0 : Option Value} {o1 : Option Value} {o2 : Option Value} {o3 : Option Value} {o4 : Option Value} {s0 : Value} {w : qk_W} {nc ns : Nat} {Q : Option Value ⊕ Nat → qk_W → Nat → Nat → Prop} (hs0 : qk_isr s0 = true) (hc1 : qk_c2 [o0, o1, o2, o3, o4] 4 = true) (hq : Q (.inl (some (.int 1))) w nc ns) : Ev d m_La_at 13 [o0, o1, o2, o3, o4] [s0] w nc ns Q := by
  refine ev_astore d_La_at_13 hs0 (by decide) hc1 ?_
  refine ev_iconst 1 d_La_at_15 (by decide) ?_
  exact ev_iret d_La_at_16 rfl rfl hq
/-! La_qualityAt -/
theorem cw_La_60 : qk_cw "QuakeLinkLaw" m_Q_qualityAt.1 (.invokevirtual 60) := ⟨(lw_i4 _ (List.mem_of_getElem? (i := 112) rfl)), (lw_i4 _ (List.mem_of_getElem? (i := 113) rfl)), (lw_i4 _ (List.mem_of_getElem? (i := 114) rfl))⟩
theorem d_La_qualityAt_0 : decode m_La_qualityAt.2.1 0 = .ok (.aload_n 3, 1) := by decide +kernel
theorem d_La_qualityAt_1 : decode m_La_qualityAt.2.1 1 = .ok (.iconst 0, 1) := by decide +kernel
theorem d_La_qualityAt_2 : decode m_La_qualityAt.2.1 2 = .ok (.aload_n 0, 1) := by decide +kernel
theorem d_La_qualityAt_3 : decode m_La_qualityAt.2.1 3 = .ok (.iload_n 1, 1) := by decide +kernel
theorem d_La_qualityAt_4 : decode m_La_qualityAt.2.1 4 = .ok (.iload_n 2, 1) := by decide +kernel
theorem d_La_qualityAt_5 : decode m_La_qualityAt.2.1 5 = .ok (.invokevirtual 60, 3) := by decide +kernel
theorem d_La_qualityAt_8 : decode m_La_qualityAt.2.1 8 = .ok (.i2l, 1) := by decide +kernel
theorem d_La_qualityAt_9 : decode m_La_qualityAt.2.1 9 = .ok (.lastore, 1) := by decide +kernel
theorem d_La_qualityAt_10 : decode m_La_qualityAt.2.1 10 = .ok (.goto 7, 3) := by decide +kernel
theorem d_La_qualityAt_13 : decode m_La_qualityAt.2.1 13 = .ok (.astore 4, 2) := by decide +kernel
theorem d_La_qualityAt_15 : decode m_La_qualityAt.2.1 15 = .ok (.iconst 1, 1) := by decide +kernel
theorem d_La_qualityAt_16 : decode m_La_qualityAt.2.1 16 = .ok (.ireturn, 1) := by decide +kernel
theorem d_La_qualityAt_17 : decode m_La_qualityAt.2.1 17 = .ok (.iconst 0, 1) := by decide +kernel
theorem d_La_qualityAt_18 : decode m_La_qualityAt.2.1 18 = .ok (.ireturn, 1) := by decide +kernel
theorem t_La_qualityAt_0 {d : Nat} {st : List Value} {a0 : Nat} {x1 : Int32} {x2 : Int32} {v3 : Value} {o4 : Option Value} {fsb : List Value} {w : qk_W} {nc ns : Nat} {Q : Option Value ⊕ Nat → qk_W → Nat → Nat → Prop} (hv3 : qk_isr v3 = true) (hb : wo w a0 0 fsb) (h8 : ((.int 0 :: v3 :: st).map fun v => Value.category v).sum ≤ 8) (k : Ev d m_Q_qualityAt 0 [some (.ref a0), some (.int x1), some (.int x2)] [] w nc ns (fun r w1 nc1 ns1 => match r with | .inl v => Ev (d + 1) m_La_qualityAt 8 [some (.ref a0), some (.int x1), some (.int x2), some v3, o4] (v.toList ++ (.int 0 :: v3 :: st)) w1 nc1 ns1 Q | .inr x => ∃ ci q fs hpc, w1 x = some (.inr (ci, fs)) ∧ qcl[ci]? = some q ∧ qk_find "QuakeLinkLaw" q.1 5 m_La_qualityAt.2.2.2.2 hpc ∧ Ev (d + 1) m_La_qualityAt hpc [some (.ref a0), some (.int x1), some (.int x2), some v3, o4] [.ref x] w1 nc1 ns1 Q)) : Ev (d + 1) m_La_qualityAt 0 [some (.ref a0), some (.int x1), some (.int x2), some v3, o4] st w nc ns Q := by
  refine ev_aload_n d_La_qualityAt_0 rfl hv3 ?_
  refine ev_iconst 0 d_La_qualityAt_1 (by decide) ?_
  refine ev_aload_n d_La_qualityAt_2 rfl rfl ?_
  refine ev_iload_n d_La_qualityAt_3 rfl ?_
  refine ev_iload_n d_La_qualityAt_4 rfl ?_
  exact ev_callH (M' := m_Q_qualityAt) (As := [.ref a0, .int x1, .int x2]) (st := (.int 0 :: v3 :: st)) d_La_qualityAt_5 i_Q_qualityAt (fun h => absurd h (by decide +kernel)) cw_La_60 rfl ⟨hb.1, 0, _, _, hb.2, rfl, rfl⟩ rfl (Nat.le_of_ble_eq_true rfl) h8 k
theorem t_La_qualityAt_8 {d : Nat} {st : List Value} {o0 : Option Value} {o1 : Option Value} {o2 : Option Value} {o3 : Option Value} {o4 : Option Value} {y0 : Int32} {y1 : Int32} {b2 : Nat} {n2 : Nat} {f3 : Nat → Int64} {w : qk_W} {nc ns : Nat} {Q : Option Value ⊕ Nat → qk_W → Nat → Nat → Prop}  (ha1 : wl w b2 n2 f3) (hi : vp_in y1 n2) (k : Ev d m_La_qualityAt 10 [o0, o1, o2, o3, o4] st (qk_set w b2 (.inl (.long, n2, .inr (.inl (vp_updL f3 y1.toNatClampNeg (Int32.toInt64 y0)))))) nc ns Q) : Ev d m_La_qualityAt 8 [o0, o1, o2, o3, o4] (.int y0 :: .int y1 :: .ref b2 :: st) w nc ns Q := by
  refine ev_i2l d_La_qualityAt_8 ?_
  exact ev_last d_La_qualityAt_9 ha1.1 ha1.2 hi k
theorem t_La_qualityAt_10 {d : Nat} {o0 : Option Value} {o1 : Option Value} {o2 : Option Value} {o3 : Option Value} {o4 : Option Value} {w : qk_W} {nc ns : Nat} {Q : Option Value ⊕ Nat → qk_W → Nat → Nat → Prop}   (hq : Q (.inl (some (.int 0))) w nc ns) : Ev d m_La_qualityAt 10 [o0, o1, o2, o3, o4] [] w nc ns Q := by
  refine ev_goto 17 d_La_qualityAt_10 (by decide) ?_
  refine ev_iconst 0 d_La_qualityAt_17 (by decide) ?_
  exact ev_iret d_La_qualityAt_18 rfl rfl hq
theorem t_La_qualityAt_13 {d : Nat} {o0 : Option Value} {o1 : Option Value} {o2 : Option Value} {o3 : Option Value} {o4 : Option Value} {s0 : Value} {w : qk_W} {nc ns : Nat} {Q : Option Value ⊕ Nat → qk_W → Nat → Nat → Prop} (hs0 : qk_isr s0 = true) (hc1 : qk_c2 [o0, o1, o2, o3, o4] 4 = true) (hq : Q (.inl (some (.int 1))) w nc ns) : Ev d m_La_qualityAt 13 [o0, o1, o2, o3, o4] [s0] w nc ns Q := by
  refine ev_astore d_La_qualityAt_13 hs0 (by decide) hc1 ?_
  refine ev_iconst 1 d_La_qualityAt_15 (by decide) ?_
  exact ev_iret d_La_qualityAt_16 rfl rfl hq
/-! La_gaps -/
theorem cw_La_63 : qk_cw "QuakeLinkLaw" m_Q_gaps.1 (.invokevirtual 63) := ⟨(lw_i4 _ (List.mem_of_getElem? (i := 123) rfl)), (lw_i4 _ (List.mem_of_getElem? (i := 124) rfl)), (lw_i4 _ (List.mem_of_getElem? (i := 125) rfl))⟩
theorem d_La_gaps_0 : decode m_La_gaps.2.1 0 = .ok (.aload_n 2, 1) := by decide +kernel
theorem d_La_gaps_1 : decode m_La_gaps.2.1 1 = .ok (.iconst 0, 1) := by decide +kernel
theorem d_La_gaps_2 : decode m_La_gaps.2.1 2 = .ok (.aload_n 0, 1) := by decide +kernel
theorem d_La_gaps_3 : decode m_La_gaps.2.1 3 = .ok (.iload_n 1, 1) := by decide +kernel
theorem d_La_gaps_4 : decode m_La_gaps.2.1 4 = .ok (.invokevirtual 63, 3) := by decide +kernel
theorem d_La_gaps_7 : decode m_La_gaps.2.1 7 = .ok (.i2l, 1) := by decide +kernel
theorem d_La_gaps_8 : decode m_La_gaps.2.1 8 = .ok (.lastore, 1) := by decide +kernel
theorem d_La_gaps_9 : decode m_La_gaps.2.1 9 = .ok (.goto 6, 3) := by decide +kernel
theorem d_La_gaps_12 : decode m_La_gaps.2.1 12 = .ok (.astore_n 3, 1) := by decide +kernel
theorem d_La_gaps_13 : decode m_La_gaps.2.1 13 = .ok (.iconst 1, 1) := by decide +kernel
theorem d_La_gaps_14 : decode m_La_gaps.2.1 14 = .ok (.ireturn, 1) := by decide +kernel
theorem d_La_gaps_15 : decode m_La_gaps.2.1 15 = .ok (.iconst 0, 1) := by decide +kernel
theorem d_La_gaps_16 : decode m_La_gaps.2.1 16 = .ok (.ireturn, 1) := by decide +kernel
theorem t_La_gaps_0 {d : Nat} {st : List Value} {a0 : Nat} {x1 : Int32} {v2 : Value} {o3 : Option Value} {fsb : List Value} {w : qk_W} {nc ns : Nat} {Q : Option Value ⊕ Nat → qk_W → Nat → Nat → Prop} (hv2 : qk_isr v2 = true) (hb : wo w a0 0 fsb) (h8 : ((.int 0 :: v2 :: st).map fun v => Value.category v).sum ≤ 8) (k : Ev d m_Q_gaps 0 [some (.ref a0), some (.int x1)] [] w nc ns (fun r w1 nc1 ns1 => match r with | .inl v => Ev (d + 1) m_La_gaps 7 [some (.ref a0), some (.int x1), some v2, o3] (v.toList ++ (.int 0 :: v2 :: st)) w1 nc1 ns1 Q | .inr x => ∃ ci q fs hpc, w1 x = some (.inr (ci, fs)) ∧ qcl[ci]? = some q ∧ qk_find "QuakeLinkLaw" q.1 4 m_La_gaps.2.2.2.2 hpc ∧ Ev (d + 1) m_La_gaps hpc [some (.ref a0), some (.int x1), some v2, o3] [.ref x] w1 nc1 ns1 Q)) : Ev (d + 1) m_La_gaps 0 [some (.ref a0), some (.int x1), some v2, o3] st w nc ns Q := by
  refine ev_aload_n d_La_gaps_0 rfl hv2 ?_
  refine ev_iconst 0 d_La_gaps_1 (by decide) ?_
  refine ev_aload_n d_La_gaps_2 rfl rfl ?_
  refine ev_iload_n d_La_gaps_3 rfl ?_
  exact ev_callH (M' := m_Q_gaps) (As := [.ref a0, .int x1]) (st := (.int 0 :: v2 :: st)) d_La_gaps_4 i_Q_gaps (fun h => absurd h (by decide +kernel)) cw_La_63 rfl ⟨hb.1, 0, _, _, hb.2, rfl, rfl⟩ rfl (Nat.le_of_ble_eq_true rfl) h8 k
theorem t_La_gaps_7 {d : Nat} {st : List Value} {o0 : Option Value} {o1 : Option Value} {o2 : Option Value} {o3 : Option Value} {y0 : Int32} {y1 : Int32} {b2 : Nat} {n2 : Nat} {f3 : Nat → Int64} {w : qk_W} {nc ns : Nat} {Q : Option Value ⊕ Nat → qk_W → Nat → Nat → Prop}  (ha1 : wl w b2 n2 f3) (hi : vp_in y1 n2) (k : Ev d m_La_gaps 9 [o0, o1, o2, o3] st (qk_set w b2 (.inl (.long, n2, .inr (.inl (vp_updL f3 y1.toNatClampNeg (Int32.toInt64 y0)))))) nc ns Q) : Ev d m_La_gaps 7 [o0, o1, o2, o3] (.int y0 :: .int y1 :: .ref b2 :: st) w nc ns Q := by
  refine ev_i2l d_La_gaps_7 ?_
  exact ev_last d_La_gaps_8 ha1.1 ha1.2 hi k
theorem t_La_gaps_9 {d : Nat} {o0 : Option Value} {o1 : Option Value} {o2 : Option Value} {o3 : Option Value} {w : qk_W} {nc ns : Nat} {Q : Option Value ⊕ Nat → qk_W → Nat → Nat → Prop}   (hq : Q (.inl (some (.int 0))) w nc ns) : Ev d m_La_gaps 9 [o0, o1, o2, o3] [] w nc ns Q := by
  refine ev_goto 15 d_La_gaps_9 (by decide) ?_
  refine ev_iconst 0 d_La_gaps_15 (by decide) ?_
  exact ev_iret d_La_gaps_16 rfl rfl hq
theorem t_La_gaps_12 {d : Nat} {o0 : Option Value} {o1 : Option Value} {o2 : Option Value} {o3 : Option Value} {s0 : Value} {w : qk_W} {nc ns : Nat} {Q : Option Value ⊕ Nat → qk_W → Nat → Nat → Prop} (hs0 : qk_isr s0 = true) (hc1 : qk_c2 [o0, o1, o2, o3] 3 = true) (hq : Q (.inl (some (.int 1))) w nc ns) : Ev d m_La_gaps 12 [o0, o1, o2, o3] [s0] w nc ns Q := by
  refine ev_astore_n d_La_gaps_12 hs0 (by decide) hc1 ?_
  refine ev_iconst 1 d_La_gaps_13 (by decide) ?_
  exact ev_iret d_La_gaps_14 rfl rfl hq
/-! La_gap -/
theorem cw_La_66 : qk_cw "QuakeLinkLaw" m_Q_gap.1 (.invokevirtual 66) := ⟨(lw_i4 _ (List.mem_of_getElem? (i := 136) rfl)), (lw_i4 _ (List.mem_of_getElem? (i := 137) rfl)), (lw_i4 _ (List.mem_of_getElem? (i := 138) rfl))⟩
theorem d_La_gap_0 : decode m_La_gap.2.1 0 = .ok (.aload 4, 2) := by decide +kernel
theorem d_La_gap_2 : decode m_La_gap.2.1 2 = .ok (.iconst 0, 1) := by decide +kernel
theorem d_La_gap_3 : decode m_La_gap.2.1 3 = .ok (.aload_n 0, 1) := by decide +kernel
theorem d_La_gap_4 : decode m_La_gap.2.1 4 = .ok (.iload_n 1, 1) := by decide +kernel
theorem d_La_gap_5 : decode m_La_gap.2.1 5 = .ok (.iload_n 2, 1) := by decide +kernel
theorem d_La_gap_6 : decode m_La_gap.2.1 6 = .ok (.iload_n 3, 1) := by decide +kernel
theorem d_La_gap_7 : decode m_La_gap.2.1 7 = .ok (.invokevirtual 66, 3) := by decide +kernel
theorem d_La_gap_10 : decode m_La_gap.2.1 10 = .ok (.i2l, 1) := by decide +kernel
theorem d_La_gap_11 : decode m_La_gap.2.1 11 = .ok (.lastore, 1) := by decide +kernel
theorem d_La_gap_12 : decode m_La_gap.2.1 12 = .ok (.goto 7, 3) := by decide +kernel
theorem d_La_gap_15 : decode m_La_gap.2.1 15 = .ok (.astore 5, 2) := by decide +kernel
theorem d_La_gap_17 : decode m_La_gap.2.1 17 = .ok (.iconst 1, 1) := by decide +kernel
theorem d_La_gap_18 : decode m_La_gap.2.1 18 = .ok (.ireturn, 1) := by decide +kernel
theorem d_La_gap_19 : decode m_La_gap.2.1 19 = .ok (.iconst 0, 1) := by decide +kernel
theorem d_La_gap_20 : decode m_La_gap.2.1 20 = .ok (.ireturn, 1) := by decide +kernel
theorem t_La_gap_0 {d : Nat} {st : List Value} {a0 : Nat} {x1 : Int32} {x2 : Int32} {x3 : Int32} {v4 : Value} {o5 : Option Value} {fsb : List Value} {w : qk_W} {nc ns : Nat} {Q : Option Value ⊕ Nat → qk_W → Nat → Nat → Prop} (hv4 : qk_isr v4 = true) (hb : wo w a0 0 fsb) (h8 : ((.int 0 :: v4 :: st).map fun v => Value.category v).sum ≤ 8) (k : Ev d m_Q_gap 0 [some (.ref a0), some (.int x1), some (.int x2), some (.int x3), none, none] [] w nc ns (fun r w1 nc1 ns1 => match r with | .inl v => Ev (d + 1) m_La_gap 10 [some (.ref a0), some (.int x1), some (.int x2), some (.int x3), some v4, o5] (v.toList ++ (.int 0 :: v4 :: st)) w1 nc1 ns1 Q | .inr x => ∃ ci q fs hpc, w1 x = some (.inr (ci, fs)) ∧ qcl[ci]? = some q ∧ qk_find "QuakeLinkLaw" q.1 7 m_La_gap.2.2.2.2 hpc ∧ Ev (d + 1) m_La_gap hpc [some (.ref a0), some (.int x1), some (.int x2), some (.int x3), some v4, o5] [.ref x] w1 nc1 ns1 Q)) : Ev (d + 1) m_La_gap 0 [some (.ref a0), some (.int x1), some (.int x2), some (.int x3), some v4, o5] st w nc ns Q := by
  refine ev_aload d_La_gap_0 rfl hv4 ?_
  refine ev_iconst 0 d_La_gap_2 (by decide) ?_
  refine ev_aload_n d_La_gap_3 rfl rfl ?_
  refine ev_iload_n d_La_gap_4 rfl ?_
  refine ev_iload_n d_La_gap_5 rfl ?_
  refine ev_iload_n d_La_gap_6 rfl ?_
  exact ev_callH (M' := m_Q_gap) (As := [.ref a0, .int x1, .int x2, .int x3]) (st := (.int 0 :: v4 :: st)) d_La_gap_7 i_Q_gap (fun h => absurd h (by decide +kernel)) cw_La_66 rfl ⟨hb.1, 0, _, _, hb.2, rfl, rfl⟩ rfl (Nat.le_of_ble_eq_true rfl) h8 k
theorem t_La_gap_10 {d : Nat} {st : List Value} {o0 : Option Value} {o1 : Option Value} {o2 : Option Value} {o3 : Option Value} {o4 : Option Value} {o5 : Option Value} {y0 : Int32} {y1 : Int32} {b2 : Nat} {n2 : Nat} {f3 : Nat → Int64} {w : qk_W} {nc ns : Nat} {Q : Option Value ⊕ Nat → qk_W → Nat → Nat → Prop}  (ha1 : wl w b2 n2 f3) (hi : vp_in y1 n2) (k : Ev d m_La_gap 12 [o0, o1, o2, o3, o4, o5] st (qk_set w b2 (.inl (.long, n2, .inr (.inl (vp_updL f3 y1.toNatClampNeg (Int32.toInt64 y0)))))) nc ns Q) : Ev d m_La_gap 10 [o0, o1, o2, o3, o4, o5] (.int y0 :: .int y1 :: .ref b2 :: st) w nc ns Q := by
  refine ev_i2l d_La_gap_10 ?_
  exact ev_last d_La_gap_11 ha1.1 ha1.2 hi k
theorem t_La_gap_12 {d : Nat} {o0 : Option Value} {o1 : Option Value} {o2 : Option Value} {o3 : Option Value} {o4 : Option Value} {o5 : Option Value} {w : qk_W} {nc ns : Nat} {Q : Option Value ⊕ Nat → qk_W → Nat → Nat → Prop}   (hq : Q (.inl (some (.int 0))) w nc ns) : Ev d m_La_gap 12 [o0, o1, o2, o3, o4, o5] [] w nc ns Q := by
  refine ev_goto 19 d_La_gap_12 (by decide) ?_
  refine ev_iconst 0 d_La_gap_19 (by decide) ?_
  exact ev_iret d_La_gap_20 rfl rfl hq
theorem t_La_gap_15 {d : Nat} {o0 : Option Value} {o1 : Option Value} {o2 : Option Value} {o3 : Option Value} {o4 : Option Value} {o5 : Option Value} {s0 : Value} {w : qk_W} {nc ns : Nat} {Q : Option Value ⊕ Nat → qk_W → Nat → Nat → Prop} (hs0 : qk_isr s0 = true) (hc1 : qk_c2 [o0, o1, o2, o3, o4, o5] 5 = true) (hq : Q (.inl (some (.int 1))) w nc ns) : Ev d m_La_gap 15 [o0, o1, o2, o3, o4, o5] [s0] w nc ns Q := by
  refine ev_astore d_La_gap_15 hs0 (by decide) hc1 ?_
  refine ev_iconst 1 d_La_gap_17 (by decide) ?_
  exact ev_iret d_La_gap_18 rfl rfl hq
/-! La_count -/
theorem cw_La_70 : qk_cw "QuakeLinkLaw" m_Q_count.1 (.invokevirtual 70) := ⟨(lw_i4 _ (List.mem_of_getElem? (i := 149) rfl)), (lw_i4 _ (List.mem_of_getElem? (i := 150) rfl)), (lw_i4 _ (List.mem_of_getElem? (i := 151) rfl))⟩
theorem d_La_count_0 : decode m_La_count.2.1 0 = .ok (.aload_n 3, 1) := by decide +kernel
theorem d_La_count_1 : decode m_La_count.2.1 1 = .ok (.iconst 0, 1) := by decide +kernel
theorem d_La_count_2 : decode m_La_count.2.1 2 = .ok (.aload_n 0, 1) := by decide +kernel
theorem d_La_count_3 : decode m_La_count.2.1 3 = .ok (.iload_n 1, 1) := by decide +kernel
theorem d_La_count_4 : decode m_La_count.2.1 4 = .ok (.iload_n 2, 1) := by decide +kernel
theorem d_La_count_5 : decode m_La_count.2.1 5 = .ok (.invokevirtual 70, 3) := by decide +kernel
theorem d_La_count_8 : decode m_La_count.2.1 8 = .ok (.i2l, 1) := by decide +kernel
theorem d_La_count_9 : decode m_La_count.2.1 9 = .ok (.lastore, 1) := by decide +kernel
theorem d_La_count_10 : decode m_La_count.2.1 10 = .ok (.goto 11, 3) := by decide +kernel
theorem d_La_count_13 : decode m_La_count.2.1 13 = .ok (.astore 4, 2) := by decide +kernel
theorem d_La_count_15 : decode m_La_count.2.1 15 = .ok (.iconst 1, 1) := by decide +kernel
theorem d_La_count_16 : decode m_La_count.2.1 16 = .ok (.ireturn, 1) := by decide +kernel
theorem d_La_count_17 : decode m_La_count.2.1 17 = .ok (.astore 4, 2) := by decide +kernel
theorem d_La_count_19 : decode m_La_count.2.1 19 = .ok (.iconst 2, 1) := by decide +kernel
theorem d_La_count_20 : decode m_La_count.2.1 20 = .ok (.ireturn, 1) := by decide +kernel
theorem d_La_count_21 : decode m_La_count.2.1 21 = .ok (.iconst 0, 1) := by decide +kernel
theorem d_La_count_22 : decode m_La_count.2.1 22 = .ok (.ireturn, 1) := by decide +kernel
theorem t_La_count_0 {d : Nat} {st : List Value} {a0 : Nat} {x1 : Int32} {x2 : Int32} {v3 : Value} {o4 : Option Value} {fsb : List Value} {w : qk_W} {nc ns : Nat} {Q : Option Value ⊕ Nat → qk_W → Nat → Nat → Prop} (hv3 : qk_isr v3 = true) (hb : wo w a0 0 fsb) (h8 : ((.int 0 :: v3 :: st).map fun v => Value.category v).sum ≤ 8) (k : Ev d m_Q_count 0 [some (.ref a0), some (.int x1), some (.int x2), none, none] [] w nc ns (fun r w1 nc1 ns1 => match r with | .inl v => Ev (d + 1) m_La_count 8 [some (.ref a0), some (.int x1), some (.int x2), some v3, o4] (v.toList ++ (.int 0 :: v3 :: st)) w1 nc1 ns1 Q | .inr x => ∃ ci q fs hpc, w1 x = some (.inr (ci, fs)) ∧ qcl[ci]? = some q ∧ qk_find "QuakeLinkLaw" q.1 5 m_La_count.2.2.2.2 hpc ∧ Ev (d + 1) m_La_count hpc [some (.ref a0), some (.int x1), some (.int x2), some v3, o4] [.ref x] w1 nc1 ns1 Q)) : Ev (d + 1) m_La_count 0 [some (.ref a0), some (.int x1), some (.int x2), some v3, o4] st w nc ns Q := by
  refine ev_aload_n d_La_count_0 rfl hv3 ?_
  refine ev_iconst 0 d_La_count_1 (by decide) ?_
  refine ev_aload_n d_La_count_2 rfl rfl ?_
  refine ev_iload_n d_La_count_3 rfl ?_
  refine ev_iload_n d_La_count_4 rfl ?_
  exact ev_callH (M' := m_Q_count) (As := [.ref a0, .int x1, .int x2]) (st := (.int 0 :: v3 :: st)) d_La_count_5 i_Q_count (fun h => absurd h (by decide +kernel)) cw_La_70 rfl ⟨hb.1, 0, _, _, hb.2, rfl, rfl⟩ rfl (Nat.le_of_ble_eq_true rfl) h8 k
theorem t_La_count_8 {d : Nat} {st : List Value} {o0 : Option Value} {o1 : Option Value} {o2 : Option Value} {o3 : Option Value} {o4 : Option Value} {y0 : Int32} {y1 : Int32} {b2 : Nat} {n2 : Nat} {f3 : Nat → Int64} {w : qk_W} {nc ns : Nat} {Q : Option Value ⊕ Nat → qk_W → Nat → Nat → Prop}  (ha1 : wl w b2 n2 f3) (hi : vp_in y1 n2) (k : Ev d m_La_count 10 [o0, o1, o2, o3, o4] st (qk_set w b2 (.inl (.long, n2, .inr (.inl (vp_updL f3 y1.toNatClampNeg (Int32.toInt64 y0)))))) nc ns Q) : Ev d m_La_count 8 [o0, o1, o2, o3, o4] (.int y0 :: .int y1 :: .ref b2 :: st) w nc ns Q := by
  refine ev_i2l d_La_count_8 ?_
  exact ev_last d_La_count_9 ha1.1 ha1.2 hi k
theorem t_La_count_10 {d : Nat} {o0 : Option Value} {o1 : Option Value} {o2 : Option Value} {o3 : Option Value} {o4 : Option Value} {w : qk_W} {nc ns : Nat} {Q : Option Value ⊕ Nat → qk_W → Nat → Nat → Prop}   (hq : Q (.inl (some (.int 0))) w nc ns) : Ev d m_La_count 10 [o0, o1, o2, o3, o4] [] w nc ns Q := by
  refine ev_goto 21 d_La_count_10 (by decide) ?_
  refine ev_iconst 0 d_La_count_21 (by decide) ?_
  exact ev_iret d_La_count_22 rfl rfl hq
theorem t_La_count_13 {d : Nat} {o0 : Option Value} {o1 : Option Value} {o2 : Option Value} {o3 : Option Value} {o4 : Option Value} {s0 : Value} {w : qk_W} {nc ns : Nat} {Q : Option Value ⊕ Nat → qk_W → Nat → Nat → Prop} (hs0 : qk_isr s0 = true) (hc1 : qk_c2 [o0, o1, o2, o3, o4] 4 = true) (hq : Q (.inl (some (.int 1))) w nc ns) : Ev d m_La_count 13 [o0, o1, o2, o3, o4] [s0] w nc ns Q := by
  refine ev_astore d_La_count_13 hs0 (by decide) hc1 ?_
  refine ev_iconst 1 d_La_count_15 (by decide) ?_
  exact ev_iret d_La_count_16 rfl rfl hq
theorem t_La_count_17 {d : Nat} {o0 : Option Value} {o1 : Option Value} {o2 : Option Value} {o3 : Option Value} {o4 : Option Value} {s0 : Value} {w : qk_W} {nc ns : Nat} {Q : Option Value ⊕ Nat → qk_W → Nat → Nat → Prop} (hs0 : qk_isr s0 = true) (hc1 : qk_c2 [o0, o1, o2, o3, o4] 4 = true) (hq : Q (.inl (some (.int 2))) w nc ns) : Ev d m_La_count 17 [o0, o1, o2, o3, o4] [s0] w nc ns Q := by
  refine ev_astore d_La_count_17 hs0 (by decide) hc1 ?_
  refine ev_iconst 2 d_La_count_19 (by decide) ?_
  exact ev_iret d_La_count_20 rfl rfl hq
/-! La_total -/
theorem cw_La_73 : qk_cw "QuakeLinkLaw" m_Q_total.1 (.invokevirtual 73) := ⟨(lw_i4 _ (List.mem_of_getElem? (i := 159) rfl)), (lw_i4 _ (List.mem_of_getElem? (i := 160) rfl)), (lw_i4 _ (List.mem_of_getElem? (i := 161) rfl))⟩
theorem d_La_total_0 : decode m_La_total.2.1 0 = .ok (.aload_n 2, 1) := by decide +kernel
theorem d_La_total_1 : decode m_La_total.2.1 1 = .ok (.iconst 0, 1) := by decide +kernel
theorem d_La_total_2 : decode m_La_total.2.1 2 = .ok (.aload_n 0, 1) := by decide +kernel
theorem d_La_total_3 : decode m_La_total.2.1 3 = .ok (.iload_n 1, 1) := by decide +kernel
theorem d_La_total_4 : decode m_La_total.2.1 4 = .ok (.invokevirtual 73, 3) := by decide +kernel
theorem d_La_total_7 : decode m_La_total.2.1 7 = .ok (.i2l, 1) := by decide +kernel
theorem d_La_total_8 : decode m_La_total.2.1 8 = .ok (.lastore, 1) := by decide +kernel
theorem d_La_total_9 : decode m_La_total.2.1 9 = .ok (.goto 6, 3) := by decide +kernel
theorem d_La_total_12 : decode m_La_total.2.1 12 = .ok (.astore_n 3, 1) := by decide +kernel
theorem d_La_total_13 : decode m_La_total.2.1 13 = .ok (.iconst 1, 1) := by decide +kernel
theorem d_La_total_14 : decode m_La_total.2.1 14 = .ok (.ireturn, 1) := by decide +kernel
theorem d_La_total_15 : decode m_La_total.2.1 15 = .ok (.iconst 0, 1) := by decide +kernel
theorem d_La_total_16 : decode m_La_total.2.1 16 = .ok (.ireturn, 1) := by decide +kernel
theorem t_La_total_0 {d : Nat} {st : List Value} {a0 : Nat} {x1 : Int32} {v2 : Value} {o3 : Option Value} {fsb : List Value} {w : qk_W} {nc ns : Nat} {Q : Option Value ⊕ Nat → qk_W → Nat → Nat → Prop} (hv2 : qk_isr v2 = true) (hb : wo w a0 0 fsb) (h8 : ((.int 0 :: v2 :: st).map fun v => Value.category v).sum ≤ 8) (k : Ev d m_Q_total 0 [some (.ref a0), some (.int x1)] [] w nc ns (fun r w1 nc1 ns1 => match r with | .inl v => Ev (d + 1) m_La_total 7 [some (.ref a0), some (.int x1), some v2, o3] (v.toList ++ (.int 0 :: v2 :: st)) w1 nc1 ns1 Q | .inr x => ∃ ci q fs hpc, w1 x = some (.inr (ci, fs)) ∧ qcl[ci]? = some q ∧ qk_find "QuakeLinkLaw" q.1 4 m_La_total.2.2.2.2 hpc ∧ Ev (d + 1) m_La_total hpc [some (.ref a0), some (.int x1), some v2, o3] [.ref x] w1 nc1 ns1 Q)) : Ev (d + 1) m_La_total 0 [some (.ref a0), some (.int x1), some v2, o3] st w nc ns Q := by
  refine ev_aload_n d_La_total_0 rfl hv2 ?_
  refine ev_iconst 0 d_La_total_1 (by decide) ?_
  refine ev_aload_n d_La_total_2 rfl rfl ?_
  refine ev_iload_n d_La_total_3 rfl ?_
  exact ev_callH (M' := m_Q_total) (As := [.ref a0, .int x1]) (st := (.int 0 :: v2 :: st)) d_La_total_4 i_Q_total (fun h => absurd h (by decide +kernel)) cw_La_73 rfl ⟨hb.1, 0, _, _, hb.2, rfl, rfl⟩ rfl (Nat.le_of_ble_eq_true rfl) h8 k
theorem t_La_total_7 {d : Nat} {st : List Value} {o0 : Option Value} {o1 : Option Value} {o2 : Option Value} {o3 : Option Value} {y0 : Int32} {y1 : Int32} {b2 : Nat} {n2 : Nat} {f3 : Nat → Int64} {w : qk_W} {nc ns : Nat} {Q : Option Value ⊕ Nat → qk_W → Nat → Nat → Prop}  (ha1 : wl w b2 n2 f3) (hi : vp_in y1 n2) (k : Ev d m_La_total 9 [o0, o1, o2, o3] st (qk_set w b2 (.inl (.long, n2, .inr (.inl (vp_updL f3 y1.toNatClampNeg (Int32.toInt64 y0)))))) nc ns Q) : Ev d m_La_total 7 [o0, o1, o2, o3] (.int y0 :: .int y1 :: .ref b2 :: st) w nc ns Q := by
  refine ev_i2l d_La_total_7 ?_
  exact ev_last d_La_total_8 ha1.1 ha1.2 hi k
theorem t_La_total_9 {d : Nat} {o0 : Option Value} {o1 : Option Value} {o2 : Option Value} {o3 : Option Value} {w : qk_W} {nc ns : Nat} {Q : Option Value ⊕ Nat → qk_W → Nat → Nat → Prop}   (hq : Q (.inl (some (.int 0))) w nc ns) : Ev d m_La_total 9 [o0, o1, o2, o3] [] w nc ns Q := by
  refine ev_goto 15 d_La_total_9 (by decide) ?_
  refine ev_iconst 0 d_La_total_15 (by decide) ?_
  exact ev_iret d_La_total_16 rfl rfl hq
theorem t_La_total_12 {d : Nat} {o0 : Option Value} {o1 : Option Value} {o2 : Option Value} {o3 : Option Value} {s0 : Value} {w : qk_W} {nc ns : Nat} {Q : Option Value ⊕ Nat → qk_W → Nat → Nat → Prop} (hs0 : qk_isr s0 = true) (hc1 : qk_c2 [o0, o1, o2, o3] 3 = true) (hq : Q (.inl (some (.int 1))) w nc ns) : Ev d m_La_total 12 [o0, o1, o2, o3] [s0] w nc ns Q := by
  refine ev_astore_n d_La_total_12 hs0 (by decide) hc1 ?_
  refine ev_iconst 1 d_La_total_13 (by decide) ?_
  exact ev_iret d_La_total_14 rfl rfl hq
/-! La_law -/
theorem nl_La_8 : qk_nl "QuakeLinkLaw" 8 0 [.null, .null, .null] := ⟨_, rfl, by decide, (lw_i1 _ (List.mem_of_getElem? (i := 22) rfl)), rfl, rfl⟩
theorem cw_La_76 : qk_cw "QuakeLinkLaw" m_Q_init.1 (.invokespecial 76) := ⟨rfl, Or.inl (lw_i1 _ (List.mem_of_getElem? (i := 24) rfl)), (lw_i1 _ (List.mem_of_getElem? (i := 25) rfl))⟩
theorem nl_La_77 : qk_nl "QuakeLinkLaw" 77 11 [.int 0, .null, .null, .null, .null, .int 0, .null, .null, .null, .null, .null, .int 0, .null, .int 0, .null, .null, .null, .int 0, .null, .null, .null, .int 0, .int 0, .int 0, .int 0, .int 0, .int 0, .int 0, .int 0, .long 0, .long 0, .null, .int 0, .int 0] := ⟨_, rfl, by decide, (lw_i4 _ (List.mem_of_getElem? (i := 168) rfl)), rfl, rfl⟩
theorem cw_La_79 : qk_cw "QuakeLinkLaw" m_Mo_init.1 (.invokespecial 79) := ⟨rfl, Or.inl (lw_i4 _ (List.mem_of_getElem? (i := 170) rfl)), (lw_i4 _ (List.mem_of_getElem? (i := 171) rfl))⟩
theorem cw_La_80 : qk_cw "QuakeLinkLaw" m_La_sample.1 (.invokestatic 80) := ⟨Or.inl (lw_i2 _ (List.mem_of_getElem? (i := 147) rfl)), (lw_i2 _ (List.mem_of_getElem? (i := 148) rfl))⟩
theorem cw_La_85 : qk_cw "QuakeLinkLaw" m_Mo_sample.1 (.invokevirtual 85) := ⟨(lw_i5 _ (List.mem_of_getElem? (i := 44) rfl)), (lw_i5 _ (List.mem_of_getElem? (i := 45) rfl)), (lw_i5 _ (List.mem_of_getElem? (i := 46) rfl))⟩
theorem cw_La_86 : qk_cw "QuakeLinkLaw" m_Mo_thrown.1 (.invokevirtual 86) := ⟨(lw_i5 _ (List.mem_of_getElem? (i := 40) rfl)), (lw_i5 _ (List.mem_of_getElem? (i := 41) rfl)), (lw_i5 _ (List.mem_of_getElem? (i := 42) rfl))⟩
theorem cw_La_90 : qk_cw "QuakeLinkLaw" m_La_samples.1 (.invokestatic 90) := ⟨Or.inl (lw_i3 _ (List.mem_of_getElem? (i := 73) rfl)), (lw_i3 _ (List.mem_of_getElem? (i := 74) rfl))⟩
theorem cw_La_93 : qk_cw "QuakeLinkLaw" m_Mo_samples.1 (.invokevirtual 93) := ⟨(lw_i5 _ (List.mem_of_getElem? (i := 81) rfl)), (lw_i5 _ (List.mem_of_getElem? (i := 82) rfl)), (lw_i5 _ (List.mem_of_getElem? (i := 83) rfl))⟩
theorem cw_La_94 : qk_cw "QuakeLinkLaw" m_La_quality.1 (.invokestatic 94) := ⟨Or.inl (lw_i3 _ (List.mem_of_getElem? (i := 97) rfl)), (lw_i3 _ (List.mem_of_getElem? (i := 98) rfl))⟩
theorem cw_La_97 : qk_cw "QuakeLinkLaw" m_Mo_quality.1 (.invokevirtual 97) := ⟨(lw_i5 _ (List.mem_of_getElem? (i := 85) rfl)), (lw_i5 _ (List.mem_of_getElem? (i := 86) rfl)), (lw_i5 _ (List.mem_of_getElem? (i := 87) rfl))⟩
theorem cw_La_98 : qk_cw "QuakeLinkLaw" m_La_flush.1 (.invokestatic 98) := ⟨Or.inl (lw_i3 _ (List.mem_of_getElem? (i := 105) rfl)), (lw_i3 _ (List.mem_of_getElem? (i := 106) rfl))⟩
theorem cw_La_101 : qk_cw "QuakeLinkLaw" m_Mo_flush.1 (.invokevirtual 101) := ⟨(lw_i5 _ (List.mem_of_getElem? (i := 89) rfl)), (lw_i5 _ (List.mem_of_getElem? (i := 90) rfl)), (lw_i5 _ (List.mem_of_getElem? (i := 91) rfl))⟩
theorem cw_La_102 : qk_cw "QuakeLinkLaw" m_Q_turn.1 (.invokevirtual 102) := ⟨(lw_i1 _ (List.mem_of_getElem? (i := 172) rfl)), (lw_i1 _ (List.mem_of_getElem? (i := 173) rfl)), (lw_i1 _ (List.mem_of_getElem? (i := 174) rfl))⟩
theorem cw_La_105 : qk_cw "QuakeLinkLaw" m_Mo_turn.1 (.invokevirtual 105) := ⟨(lw_i5 _ (List.mem_of_getElem? (i := 93) rfl)), (lw_i5 _ (List.mem_of_getElem? (i := 94) rfl)), (lw_i5 _ (List.mem_of_getElem? (i := 95) rfl))⟩
theorem cw_La_106 : qk_cw "QuakeLinkLaw" m_Q_ask.1 (.invokevirtual 106) := ⟨(lw_i2 _ (List.mem_of_getElem? (i := 124) rfl)), (lw_i2 _ (List.mem_of_getElem? (i := 125) rfl)), (lw_i2 _ (List.mem_of_getElem? (i := 126) rfl))⟩
theorem cw_La_109 : qk_cw "QuakeLinkLaw" m_Mo_ask.1 (.invokevirtual 109) := ⟨(lw_i5 _ (List.mem_of_getElem? (i := 216) rfl)), (lw_i5 _ (List.mem_of_getElem? (i := 217) rfl)), (lw_i5 _ (List.mem_of_getElem? (i := 218) rfl))⟩
theorem cw_La_110 : qk_cw "QuakeLinkLaw" m_La_deliver.1 (.invokestatic 110) := ⟨Or.inl (lw_i3 _ (List.mem_of_getElem? (i := 114) rfl)), (lw_i3 _ (List.mem_of_getElem? (i := 115) rfl))⟩
theorem cw_La_112 : qk_cw "QuakeLinkLaw" m_Mo_deliver.1 (.invokevirtual 112) := ⟨(lw_i5 _ (List.mem_of_getElem? (i := 175) rfl)), (lw_i5 _ (List.mem_of_getElem? (i := 176) rfl)), (lw_i5 _ (List.mem_of_getElem? (i := 177) rfl))⟩
theorem cw_La_113 : qk_cw "QuakeLinkLaw" m_La_hear.1 (.invokestatic 113) := ⟨Or.inl (lw_i4 _ (List.mem_of_getElem? (i := 22) rfl)), (lw_i4 _ (List.mem_of_getElem? (i := 23) rfl))⟩
theorem cw_La_115 : qk_cw "QuakeLinkLaw" m_Mo_hear.1 (.invokevirtual 115) := ⟨(lw_i5 _ (List.mem_of_getElem? (i := 162) rfl)), (lw_i5 _ (List.mem_of_getElem? (i := 163) rfl)), (lw_i5 _ (List.mem_of_getElem? (i := 164) rfl))⟩
theorem cw_La_116 : qk_cw "QuakeLinkLaw" m_La_lose.1 (.invokestatic 116) := ⟨Or.inl (lw_i4 _ (List.mem_of_getElem? (i := 48) rfl)), (lw_i4 _ (List.mem_of_getElem? (i := 49) rfl))⟩
theorem cw_La_118 : qk_cw "QuakeLinkLaw" m_Mo_lose.1 (.invokevirtual 118) := ⟨(lw_i5 _ (List.mem_of_getElem? (i := 134) rfl)), (lw_i5 _ (List.mem_of_getElem? (i := 135) rfl)), (lw_i5 _ (List.mem_of_getElem? (i := 136) rfl))⟩
theorem cw_La_119 : qk_cw "QuakeLinkLaw" m_La_length.1 (.invokestatic 119) := ⟨Or.inl (lw_i4 _ (List.mem_of_getElem? (i := 55) rfl)), (lw_i4 _ (List.mem_of_getElem? (i := 56) rfl))⟩
theorem cw_La_121 : qk_cw "QuakeLinkLaw" m_Mo_length.1 (.invokevirtual 121) := ⟨(lw_i5 _ (List.mem_of_getElem? (i := 142) rfl)), (lw_i5 _ (List.mem_of_getElem? (i := 143) rfl)), (lw_i5 _ (List.mem_of_getElem? (i := 144) rfl))⟩
theorem cw_La_122 : qk_cw "QuakeLinkLaw" m_La_air.1 (.invokestatic 122) := ⟨Or.inl (lw_i4 _ (List.mem_of_getElem? (i := 62) rfl)), (lw_i4 _ (List.mem_of_getElem? (i := 63) rfl))⟩
theorem cw_La_124 : qk_cw "QuakeLinkLaw" m_Mo_air.1 (.invokevirtual 124) := ⟨(lw_i5 _ (List.mem_of_getElem? (i := 146) rfl)), (lw_i5 _ (List.mem_of_getElem? (i := 147) rfl)), (lw_i5 _ (List.mem_of_getElem? (i := 148) rfl))⟩
theorem cw_La_125 : qk_cw "QuakeLinkLaw" m_La_spoil.1 (.invokestatic 125) := ⟨Or.inl (lw_i4 _ (List.mem_of_getElem? (i := 74) rfl)), (lw_i4 _ (List.mem_of_getElem? (i := 75) rfl))⟩
theorem cw_La_128 : qk_cw "QuakeLinkLaw" m_Mo_spoil.1 (.invokevirtual 128) := ⟨(lw_i5 _ (List.mem_of_getElem? (i := 154) rfl)), (lw_i5 _ (List.mem_of_getElem? (i := 155) rfl)), (lw_i5 _ (List.mem_of_getElem? (i := 156) rfl))⟩
theorem cw_La_129 : qk_cw "QuakeLinkLaw" m_La_mend.1 (.invokestatic 129) := ⟨Or.inl (lw_i4 _ (List.mem_of_getElem? (i := 81) rfl)), (lw_i4 _ (List.mem_of_getElem? (i := 82) rfl))⟩
theorem cw_La_131 : qk_cw "QuakeLinkLaw" m_Mo_mend.1 (.invokevirtual 131) := ⟨(lw_i5 _ (List.mem_of_getElem? (i := 158) rfl)), (lw_i5 _ (List.mem_of_getElem? (i := 159) rfl)), (lw_i5 _ (List.mem_of_getElem? (i := 160) rfl))⟩
theorem cw_La_132 : qk_cw "QuakeLinkLaw" m_La_has.1 (.invokestatic 132) := ⟨Or.inl (lw_i4 _ (List.mem_of_getElem? (i := 89) rfl)), (lw_i4 _ (List.mem_of_getElem? (i := 90) rfl))⟩
theorem cw_La_134 : qk_cw "QuakeLinkLaw" m_Mo_has.1 (.invokevirtual 134) := ⟨(lw_i5 _ (List.mem_of_getElem? (i := 188) rfl)), (lw_i5 _ (List.mem_of_getElem? (i := 189) rfl)), (lw_i5 _ (List.mem_of_getElem? (i := 190) rfl))⟩
theorem cw_La_135 : qk_cw "QuakeLinkLaw" m_La_at.1 (.invokestatic 135) := ⟨Or.inl (lw_i4 _ (List.mem_of_getElem? (i := 101) rfl)), (lw_i4 _ (List.mem_of_getElem? (i := 102) rfl))⟩
theorem cw_La_137 : qk_cw "QuakeLinkLaw" m_Mo_at.1 (.invokevirtual 137) := ⟨(lw_i5 _ (List.mem_of_getElem? (i := 196) rfl)), (lw_i5 _ (List.mem_of_getElem? (i := 197) rfl)), (lw_i5 _ (List.mem_of_getElem? (i := 198) rfl))⟩
theorem cw_La_138 : qk_cw "QuakeLinkLaw" m_La_qualityAt.1 (.invokestatic 138) := ⟨Or.inl (lw_i4 _ (List.mem_of_getElem? (i := 109) rfl)), (lw_i4 _ (List.mem_of_getElem? (i := 110) rfl))⟩
theorem cw_La_140 : qk_cw "QuakeLinkLaw" m_Mo_qualityAt.1 (.invokevirtual 140) := ⟨(lw_i5 _ (List.mem_of_getElem? (i := 200) rfl)), (lw_i5 _ (List.mem_of_getElem? (i := 201) rfl)), (lw_i5 _ (List.mem_of_getElem? (i := 202) rfl))⟩
theorem cw_La_141 : qk_cw "QuakeLinkLaw" m_La_gaps.1 (.invokestatic 141) := ⟨Or.inl (lw_i4 _ (List.mem_of_getElem? (i := 120) rfl)), (lw_i4 _ (List.mem_of_getElem? (i := 121) rfl))⟩
theorem cw_La_143 : qk_cw "QuakeLinkLaw" m_Mo_gaps.1 (.invokevirtual 143) := ⟨(lw_i5 _ (List.mem_of_getElem? (i := 204) rfl)), (lw_i5 _ (List.mem_of_getElem? (i := 205) rfl)), (lw_i5 _ (List.mem_of_getElem? (i := 206) rfl))⟩
theorem cw_La_144 : qk_cw "QuakeLinkLaw" m_La_gap.1 (.invokestatic 144) := ⟨Or.inl (lw_i4 _ (List.mem_of_getElem? (i := 133) rfl)), (lw_i4 _ (List.mem_of_getElem? (i := 134) rfl))⟩
theorem cw_La_147 : qk_cw "QuakeLinkLaw" m_Mo_gap.1 (.invokevirtual 147) := ⟨(lw_i5 _ (List.mem_of_getElem? (i := 212) rfl)), (lw_i5 _ (List.mem_of_getElem? (i := 213) rfl)), (lw_i5 _ (List.mem_of_getElem? (i := 214) rfl))⟩
theorem cw_La_148 : qk_cw "QuakeLinkLaw" m_La_count.1 (.invokestatic 148) := ⟨Or.inl (lw_i4 _ (List.mem_of_getElem? (i := 146) rfl)), (lw_i4 _ (List.mem_of_getElem? (i := 147) rfl))⟩
theorem cw_La_150 : qk_cw "QuakeLinkLaw" m_Mo_count.1 (.invokevirtual 150) := ⟨(lw_i5 _ (List.mem_of_getElem? (i := 220) rfl)), (lw_i5 _ (List.mem_of_getElem? (i := 221) rfl)), (lw_i5 _ (List.mem_of_getElem? (i := 222) rfl))⟩
theorem cw_La_151 : qk_cw "QuakeLinkLaw" m_La_total.1 (.invokestatic 151) := ⟨Or.inl (lw_i4 _ (List.mem_of_getElem? (i := 156) rfl)), (lw_i4 _ (List.mem_of_getElem? (i := 157) rfl))⟩
theorem cw_La_153 : qk_cw "QuakeLinkLaw" m_Mo_total.1 (.invokevirtual 153) := ⟨(lw_i5 _ (List.mem_of_getElem? (i := 224) rfl)), (lw_i5 _ (List.mem_of_getElem? (i := 225) rfl)), (lw_i5 _ (List.mem_of_getElem? (i := 226) rfl))⟩
theorem d_La_law_0 : decode m_La_law.2.1 0 = .ok (.new 8, 3) := by decide +kernel
theorem d_La_law_3 : decode m_La_law.2.1 3 = .ok (.dup, 1) := by decide +kernel
theorem d_La_law_4 : decode m_La_law.2.1 4 = .ok (.invokespecial 76, 3) := by decide +kernel
theorem d_La_law_7 : decode m_La_law.2.1 7 = .ok (.astore_n 1, 1) := by decide +kernel
theorem d_La_law_8 : decode m_La_law.2.1 8 = .ok (.new 77, 3) := by decide +kernel
theorem d_La_law_11 : decode m_La_law.2.1 11 = .ok (.dup, 1) := by decide +kernel
theorem d_La_law_12 : decode m_La_law.2.1 12 = .ok (.invokespecial 79, 3) := by decide +kernel
theorem d_La_law_15 : decode m_La_law.2.1 15 = .ok (.astore_n 2, 1) := by decide +kernel
theorem d_La_law_16 : decode m_La_law.2.1 16 = .ok (.iconst 1, 1) := by decide +kernel
theorem d_La_law_17 : decode m_La_law.2.1 17 = .ok (.newarray .long, 2) := by decide +kernel
theorem d_La_law_19 : decode m_La_law.2.1 19 = .ok (.astore_n 3, 1) := by decide +kernel
theorem d_La_law_20 : decode m_La_law.2.1 20 = .ok (.iconst 0, 1) := by decide +kernel
theorem d_La_law_21 : decode m_La_law.2.1 21 = .ok (.istore 4, 2) := by decide +kernel
theorem d_La_law_23 : decode m_La_law.2.1 23 = .ok (.iload 4, 2) := by decide +kernel
theorem d_La_law_25 : decode m_La_law.2.1 25 = .ok (.aload_n 0, 1) := by decide +kernel
theorem d_La_law_26 : decode m_La_law.2.1 26 = .ok (.arraylength, 1) := by decide +kernel
theorem d_La_law_27 : decode m_La_law.2.1 27 = .ok (.bipush 6, 2) := by decide +kernel
theorem d_La_law_29 : decode m_La_law.2.1 29 = .ok (.isub, 1) := by decide +kernel
theorem d_La_law_30 : decode m_La_law.2.1 30 = .ok (.if_icmp .gt 1257, 3) := by decide +kernel
theorem d_La_law_33 : decode m_La_law.2.1 33 = .ok (.aload_n 0, 1) := by decide +kernel
theorem d_La_law_34 : decode m_La_law.2.1 34 = .ok (.iload 4, 2) := by decide +kernel
theorem d_La_law_36 : decode m_La_law.2.1 36 = .ok (.iaload, 1) := by decide +kernel
theorem d_La_law_37 : decode m_La_law.2.1 37 = .ok (.bipush 31, 2) := by decide +kernel
theorem d_La_law_39 : decode m_La_law.2.1 39 = .ok (.iand, 1) := by decide +kernel
theorem d_La_law_40 : decode m_La_law.2.1 40 = .ok (.tableswitch 1241 0 19 #[96, 164, 268, 304, 360, 373, 386, 442, 498, 534, 590, 658, 718, 754, 829, 897, 965, 1021, 1117, 1185], 96) := by decide +kernel
theorem d_La_law_136 : decode m_La_law.2.1 136 = .ok (.aload_n 1, 1) := by decide +kernel
theorem d_La_law_137 : decode m_La_law.2.1 137 = .ok (.aload_n 0, 1) := by decide +kernel
theorem d_La_law_138 : decode m_La_law.2.1 138 = .ok (.iload 4, 2) := by decide +kernel
theorem d_La_law_140 : decode m_La_law.2.1 140 = .ok (.iconst 1, 1) := by decide +kernel
theorem d_La_law_141 : decode m_La_law.2.1 141 = .ok (.iadd, 1) := by decide +kernel
theorem d_La_law_142 : decode m_La_law.2.1 142 = .ok (.iaload, 1) := by decide +kernel
theorem d_La_law_143 : decode m_La_law.2.1 143 = .ok (.aload_n 0, 1) := by decide +kernel
theorem d_La_law_144 : decode m_La_law.2.1 144 = .ok (.iload 4, 2) := by decide +kernel
theorem d_La_law_146 : decode m_La_law.2.1 146 = .ok (.iconst 2, 1) := by decide +kernel
theorem d_La_law_147 : decode m_La_law.2.1 147 = .ok (.iadd, 1) := by decide +kernel
theorem d_La_law_148 : decode m_La_law.2.1 148 = .ok (.iaload, 1) := by decide +kernel
theorem d_La_law_149 : decode m_La_law.2.1 149 = .ok (.aload_n 3, 1) := by decide +kernel
theorem d_La_law_150 : decode m_La_law.2.1 150 = .ok (.invokestatic 80, 3) := by decide +kernel
theorem d_La_law_153 : decode m_La_law.2.1 153 = .ok (.istore 5, 2) := by decide +kernel
theorem d_La_law_155 : decode m_La_law.2.1 155 = .ok (.aload_n 2, 1) := by decide +kernel
theorem d_La_law_156 : decode m_La_law.2.1 156 = .ok (.aload_n 0, 1) := by decide +kernel
theorem d_La_law_157 : decode m_La_law.2.1 157 = .ok (.iload 4, 2) := by decide +kernel
theorem d_La_law_159 : decode m_La_law.2.1 159 = .ok (.iconst 1, 1) := by decide +kernel
theorem d_La_law_160 : decode m_La_law.2.1 160 = .ok (.iadd, 1) := by decide +kernel
theorem d_La_law_161 : decode m_La_law.2.1 161 = .ok (.iaload, 1) := by decide +kernel
theorem d_La_law_162 : decode m_La_law.2.1 162 = .ok (.aload_n 0, 1) := by decide +kernel
theorem d_La_law_163 : decode m_La_law.2.1 163 = .ok (.iload 4, 2) := by decide +kernel
theorem d_La_law_165 : decode m_La_law.2.1 165 = .ok (.iconst 2, 1) := by decide +kernel
theorem d_La_law_166 : decode m_La_law.2.1 166 = .ok (.iadd, 1) := by decide +kernel
theorem d_La_law_167 : decode m_La_law.2.1 167 = .ok (.iaload, 1) := by decide +kernel
theorem d_La_law_168 : decode m_La_law.2.1 168 = .ok (.invokevirtual 85, 3) := by decide +kernel
theorem d_La_law_171 : decode m_La_law.2.1 171 = .ok (.istore 6, 2) := by decide +kernel
theorem d_La_law_173 : decode m_La_law.2.1 173 = .ok (.aload_n 2, 1) := by decide +kernel
theorem d_La_law_174 : decode m_La_law.2.1 174 = .ok (.invokevirtual 86, 3) := by decide +kernel
theorem d_La_law_177 : decode m_La_law.2.1 177 = .ok (.iload 5, 2) := by decide +kernel
theorem d_La_law_179 : decode m_La_law.2.1 179 = .ok (.if_icmp .eq 5, 3) := by decide +kernel
theorem d_La_law_182 : decode m_La_law.2.1 182 = .ok (.iconst 0, 1) := by decide +kernel
theorem d_La_law_183 : decode m_La_law.2.1 183 = .ok (.ireturn, 1) := by decide +kernel
theorem d_La_law_184 : decode m_La_law.2.1 184 = .ok (.iload 5, 2) := by decide +kernel
theorem d_La_law_186 : decode m_La_law.2.1 186 = .ok (.ifCond .ne 15, 3) := by decide +kernel
theorem d_La_law_189 : decode m_La_law.2.1 189 = .ok (.aload_n 3, 1) := by decide +kernel
theorem d_La_law_190 : decode m_La_law.2.1 190 = .ok (.iconst 0, 1) := by decide +kernel
theorem d_La_law_191 : decode m_La_law.2.1 191 = .ok (.laload, 1) := by decide +kernel
theorem d_La_law_192 : decode m_La_law.2.1 192 = .ok (.iload 6, 2) := by decide +kernel
theorem d_La_law_194 : decode m_La_law.2.1 194 = .ok (.i2l, 1) := by decide +kernel
theorem d_La_law_195 : decode m_La_law.2.1 195 = .ok (.lcmp, 1) := by decide +kernel
theorem d_La_law_196 : decode m_La_law.2.1 196 = .ok (.ifCond .eq 5, 3) := by decide +kernel
theorem d_La_law_199 : decode m_La_law.2.1 199 = .ok (.iconst 0, 1) := by decide +kernel
theorem d_La_law_200 : decode m_La_law.2.1 200 = .ok (.ireturn, 1) := by decide +kernel
theorem d_La_law_201 : decode m_La_law.2.1 201 = .ok (.goto 1080, 3) := by decide +kernel
theorem d_La_law_204 : decode m_La_law.2.1 204 = .ok (.aload_n 1, 1) := by decide +kernel
theorem d_La_law_205 : decode m_La_law.2.1 205 = .ok (.aload_n 0, 1) := by decide +kernel
theorem d_La_law_206 : decode m_La_law.2.1 206 = .ok (.iload 4, 2) := by decide +kernel
theorem d_La_law_208 : decode m_La_law.2.1 208 = .ok (.iconst 1, 1) := by decide +kernel
theorem d_La_law_209 : decode m_La_law.2.1 209 = .ok (.iadd, 1) := by decide +kernel
theorem d_La_law_210 : decode m_La_law.2.1 210 = .ok (.iaload, 1) := by decide +kernel
theorem d_La_law_211 : decode m_La_law.2.1 211 = .ok (.aload_n 0, 1) := by decide +kernel
theorem d_La_law_212 : decode m_La_law.2.1 212 = .ok (.iload 4, 2) := by decide +kernel
theorem d_La_law_214 : decode m_La_law.2.1 214 = .ok (.iconst 2, 1) := by decide +kernel
theorem d_La_law_215 : decode m_La_law.2.1 215 = .ok (.iadd, 1) := by decide +kernel
theorem d_La_law_216 : decode m_La_law.2.1 216 = .ok (.iaload, 1) := by decide +kernel
theorem d_La_law_217 : decode m_La_law.2.1 217 = .ok (.aload_n 0, 1) := by decide +kernel
theorem d_La_law_218 : decode m_La_law.2.1 218 = .ok (.iload 4, 2) := by decide +kernel
theorem d_La_law_220 : decode m_La_law.2.1 220 = .ok (.iconst 3, 1) := by decide +kernel
theorem d_La_law_221 : decode m_La_law.2.1 221 = .ok (.iadd, 1) := by decide +kernel
theorem d_La_law_222 : decode m_La_law.2.1 222 = .ok (.iaload, 1) := by decide +kernel
theorem d_La_law_223 : decode m_La_law.2.1 223 = .ok (.aload_n 0, 1) := by decide +kernel
theorem d_La_law_224 : decode m_La_law.2.1 224 = .ok (.iload 4, 2) := by decide +kernel
theorem d_La_law_226 : decode m_La_law.2.1 226 = .ok (.iconst 4, 1) := by decide +kernel
theorem d_La_law_227 : decode m_La_law.2.1 227 = .ok (.iadd, 1) := by decide +kernel
theorem d_La_law_228 : decode m_La_law.2.1 228 = .ok (.iaload, 1) := by decide +kernel
theorem d_La_law_229 : decode m_La_law.2.1 229 = .ok (.aload_n 0, 1) := by decide +kernel
theorem d_La_law_230 : decode m_La_law.2.1 230 = .ok (.iload 4, 2) := by decide +kernel
theorem d_La_law_232 : decode m_La_law.2.1 232 = .ok (.iconst 5, 1) := by decide +kernel
theorem d_La_law_233 : decode m_La_law.2.1 233 = .ok (.iadd, 1) := by decide +kernel
theorem d_La_law_234 : decode m_La_law.2.1 234 = .ok (.iaload, 1) := by decide +kernel
theorem d_La_law_235 : decode m_La_law.2.1 235 = .ok (.aload_n 3, 1) := by decide +kernel
theorem d_La_law_236 : decode m_La_law.2.1 236 = .ok (.invokestatic 90, 3) := by decide +kernel
theorem d_La_law_239 : decode m_La_law.2.1 239 = .ok (.istore 5, 2) := by decide +kernel
theorem d_La_law_241 : decode m_La_law.2.1 241 = .ok (.aload_n 2, 1) := by decide +kernel
theorem d_La_law_242 : decode m_La_law.2.1 242 = .ok (.aload_n 0, 1) := by decide +kernel
theorem d_La_law_243 : decode m_La_law.2.1 243 = .ok (.iload 4, 2) := by decide +kernel
theorem d_La_law_245 : decode m_La_law.2.1 245 = .ok (.iconst 1, 1) := by decide +kernel
theorem d_La_law_246 : decode m_La_law.2.1 246 = .ok (.iadd, 1) := by decide +kernel
theorem d_La_law_247 : decode m_La_law.2.1 247 = .ok (.iaload, 1) := by decide +kernel
theorem d_La_law_248 : decode m_La_law.2.1 248 = .ok (.aload_n 0, 1) := by decide +kernel
theorem d_La_law_249 : decode m_La_law.2.1 249 = .ok (.iload 4, 2) := by decide +kernel
theorem d_La_law_251 : decode m_La_law.2.1 251 = .ok (.iconst 2, 1) := by decide +kernel
theorem d_La_law_252 : decode m_La_law.2.1 252 = .ok (.iadd, 1) := by decide +kernel
theorem d_La_law_253 : decode m_La_law.2.1 253 = .ok (.iaload, 1) := by decide +kernel
theorem d_La_law_254 : decode m_La_law.2.1 254 = .ok (.aload_n 0, 1) := by decide +kernel
theorem d_La_law_255 : decode m_La_law.2.1 255 = .ok (.iload 4, 2) := by decide +kernel
theorem d_La_law_257 : decode m_La_law.2.1 257 = .ok (.iconst 3, 1) := by decide +kernel
theorem d_La_law_258 : decode m_La_law.2.1 258 = .ok (.iadd, 1) := by decide +kernel
theorem d_La_law_259 : decode m_La_law.2.1 259 = .ok (.iaload, 1) := by decide +kernel
theorem d_La_law_260 : decode m_La_law.2.1 260 = .ok (.aload_n 0, 1) := by decide +kernel
theorem d_La_law_261 : decode m_La_law.2.1 261 = .ok (.iload 4, 2) := by decide +kernel
theorem d_La_law_263 : decode m_La_law.2.1 263 = .ok (.iconst 4, 1) := by decide +kernel
theorem d_La_law_264 : decode m_La_law.2.1 264 = .ok (.iadd, 1) := by decide +kernel
theorem d_La_law_265 : decode m_La_law.2.1 265 = .ok (.iaload, 1) := by decide +kernel
theorem d_La_law_266 : decode m_La_law.2.1 266 = .ok (.aload_n 0, 1) := by decide +kernel
theorem d_La_law_267 : decode m_La_law.2.1 267 = .ok (.iload 4, 2) := by decide +kernel
theorem d_La_law_269 : decode m_La_law.2.1 269 = .ok (.iconst 5, 1) := by decide +kernel
theorem d_La_law_270 : decode m_La_law.2.1 270 = .ok (.iadd, 1) := by decide +kernel
theorem d_La_law_271 : decode m_La_law.2.1 271 = .ok (.iaload, 1) := by decide +kernel
theorem d_La_law_272 : decode m_La_law.2.1 272 = .ok (.invokevirtual 93, 3) := by decide +kernel
theorem d_La_law_275 : decode m_La_law.2.1 275 = .ok (.istore 6, 2) := by decide +kernel
theorem d_La_law_277 : decode m_La_law.2.1 277 = .ok (.aload_n 2, 1) := by decide +kernel
theorem d_La_law_278 : decode m_La_law.2.1 278 = .ok (.invokevirtual 86, 3) := by decide +kernel
theorem d_La_law_281 : decode m_La_law.2.1 281 = .ok (.iload 5, 2) := by decide +kernel
theorem d_La_law_283 : decode m_La_law.2.1 283 = .ok (.if_icmp .eq 5, 3) := by decide +kernel
theorem d_La_law_286 : decode m_La_law.2.1 286 = .ok (.iconst 0, 1) := by decide +kernel
theorem d_La_law_287 : decode m_La_law.2.1 287 = .ok (.ireturn, 1) := by decide +kernel
theorem d_La_law_288 : decode m_La_law.2.1 288 = .ok (.iload 5, 2) := by decide +kernel
theorem d_La_law_290 : decode m_La_law.2.1 290 = .ok (.ifCond .ne 15, 3) := by decide +kernel
theorem d_La_law_293 : decode m_La_law.2.1 293 = .ok (.aload_n 3, 1) := by decide +kernel
theorem d_La_law_294 : decode m_La_law.2.1 294 = .ok (.iconst 0, 1) := by decide +kernel
theorem d_La_law_295 : decode m_La_law.2.1 295 = .ok (.laload, 1) := by decide +kernel
theorem d_La_law_296 : decode m_La_law.2.1 296 = .ok (.iload 6, 2) := by decide +kernel
theorem d_La_law_298 : decode m_La_law.2.1 298 = .ok (.i2l, 1) := by decide +kernel
theorem d_La_law_299 : decode m_La_law.2.1 299 = .ok (.lcmp, 1) := by decide +kernel
theorem d_La_law_300 : decode m_La_law.2.1 300 = .ok (.ifCond .eq 5, 3) := by decide +kernel
theorem d_La_law_303 : decode m_La_law.2.1 303 = .ok (.iconst 0, 1) := by decide +kernel
theorem d_La_law_304 : decode m_La_law.2.1 304 = .ok (.ireturn, 1) := by decide +kernel
theorem d_La_law_305 : decode m_La_law.2.1 305 = .ok (.goto 976, 3) := by decide +kernel
theorem d_La_law_308 : decode m_La_law.2.1 308 = .ok (.aload_n 1, 1) := by decide +kernel
theorem d_La_law_309 : decode m_La_law.2.1 309 = .ok (.aload_n 0, 1) := by decide +kernel
theorem d_La_law_310 : decode m_La_law.2.1 310 = .ok (.iload 4, 2) := by decide +kernel
theorem d_La_law_312 : decode m_La_law.2.1 312 = .ok (.iconst 1, 1) := by decide +kernel
theorem d_La_law_313 : decode m_La_law.2.1 313 = .ok (.iadd, 1) := by decide +kernel
theorem d_La_law_314 : decode m_La_law.2.1 314 = .ok (.iaload, 1) := by decide +kernel
theorem d_La_law_315 : decode m_La_law.2.1 315 = .ok (.invokestatic 94, 3) := by decide +kernel
theorem d_La_law_318 : decode m_La_law.2.1 318 = .ok (.istore 5, 2) := by decide +kernel
theorem d_La_law_320 : decode m_La_law.2.1 320 = .ok (.aload_n 2, 1) := by decide +kernel
theorem d_La_law_321 : decode m_La_law.2.1 321 = .ok (.aload_n 0, 1) := by decide +kernel
theorem d_La_law_322 : decode m_La_law.2.1 322 = .ok (.iload 4, 2) := by decide +kernel
theorem d_La_law_324 : decode m_La_law.2.1 324 = .ok (.iconst 1, 1) := by decide +kernel
theorem d_La_law_325 : decode m_La_law.2.1 325 = .ok (.iadd, 1) := by decide +kernel
theorem d_La_law_326 : decode m_La_law.2.1 326 = .ok (.iaload, 1) := by decide +kernel
theorem d_La_law_327 : decode m_La_law.2.1 327 = .ok (.invokevirtual 97, 3) := by decide +kernel
theorem d_La_law_330 : decode m_La_law.2.1 330 = .ok (.aload_n 2, 1) := by decide +kernel
theorem d_La_law_331 : decode m_La_law.2.1 331 = .ok (.invokevirtual 86, 3) := by decide +kernel
theorem d_La_law_334 : decode m_La_law.2.1 334 = .ok (.iload 5, 2) := by decide +kernel
theorem d_La_law_336 : decode m_La_law.2.1 336 = .ok (.if_icmp .eq 5, 3) := by decide +kernel
theorem d_La_law_339 : decode m_La_law.2.1 339 = .ok (.iconst 0, 1) := by decide +kernel
theorem d_La_law_340 : decode m_La_law.2.1 340 = .ok (.ireturn, 1) := by decide +kernel
theorem d_La_law_341 : decode m_La_law.2.1 341 = .ok (.goto 940, 3) := by decide +kernel
theorem d_La_law_344 : decode m_La_law.2.1 344 = .ok (.aload_n 1, 1) := by decide +kernel
theorem d_La_law_345 : decode m_La_law.2.1 345 = .ok (.aload_n 0, 1) := by decide +kernel
theorem d_La_law_346 : decode m_La_law.2.1 346 = .ok (.iload 4, 2) := by decide +kernel
theorem d_La_law_348 : decode m_La_law.2.1 348 = .ok (.iconst 1, 1) := by decide +kernel
theorem d_La_law_349 : decode m_La_law.2.1 349 = .ok (.iadd, 1) := by decide +kernel
theorem d_La_law_350 : decode m_La_law.2.1 350 = .ok (.iaload, 1) := by decide +kernel
theorem d_La_law_351 : decode m_La_law.2.1 351 = .ok (.aload_n 3, 1) := by decide +kernel
theorem d_La_law_352 : decode m_La_law.2.1 352 = .ok (.invokestatic 98, 3) := by decide +kernel
theorem d_La_law_355 : decode m_La_law.2.1 355 = .ok (.istore 5, 2) := by decide +kernel
theorem d_La_law_357 : decode m_La_law.2.1 357 = .ok (.aload_n 2, 1) := by decide +kernel
theorem d_La_law_358 : decode m_La_law.2.1 358 = .ok (.aload_n 0, 1) := by decide +kernel
theorem d_La_law_359 : decode m_La_law.2.1 359 = .ok (.iload 4, 2) := by decide +kernel
theorem d_La_law_361 : decode m_La_law.2.1 361 = .ok (.iconst 1, 1) := by decide +kernel
theorem d_La_law_362 : decode m_La_law.2.1 362 = .ok (.iadd, 1) := by decide +kernel
theorem d_La_law_363 : decode m_La_law.2.1 363 = .ok (.iaload, 1) := by decide +kernel
theorem d_La_law_364 : decode m_La_law.2.1 364 = .ok (.invokevirtual 101, 3) := by decide +kernel
theorem d_La_law_367 : decode m_La_law.2.1 367 = .ok (.istore 6, 2) := by decide +kernel
theorem d_La_law_369 : decode m_La_law.2.1 369 = .ok (.aload_n 2, 1) := by decide +kernel
theorem d_La_law_370 : decode m_La_law.2.1 370 = .ok (.invokevirtual 86, 3) := by decide +kernel
theorem d_La_law_373 : decode m_La_law.2.1 373 = .ok (.iload 5, 2) := by decide +kernel
theorem d_La_law_375 : decode m_La_law.2.1 375 = .ok (.if_icmp .eq 5, 3) := by decide +kernel
theorem d_La_law_378 : decode m_La_law.2.1 378 = .ok (.iconst 0, 1) := by decide +kernel
theorem d_La_law_379 : decode m_La_law.2.1 379 = .ok (.ireturn, 1) := by decide +kernel
theorem d_La_law_380 : decode m_La_law.2.1 380 = .ok (.iload 5, 2) := by decide +kernel
theorem d_La_law_382 : decode m_La_law.2.1 382 = .ok (.ifCond .ne 15, 3) := by decide +kernel
theorem d_La_law_385 : decode m_La_law.2.1 385 = .ok (.aload_n 3, 1) := by decide +kernel
theorem d_La_law_386 : decode m_La_law.2.1 386 = .ok (.iconst 0, 1) := by decide +kernel
theorem d_La_law_387 : decode m_La_law.2.1 387 = .ok (.laload, 1) := by decide +kernel
theorem d_La_law_388 : decode m_La_law.2.1 388 = .ok (.iload 6, 2) := by decide +kernel
theorem d_La_law_390 : decode m_La_law.2.1 390 = .ok (.i2l, 1) := by decide +kernel
theorem d_La_law_391 : decode m_La_law.2.1 391 = .ok (.lcmp, 1) := by decide +kernel
theorem d_La_law_392 : decode m_La_law.2.1 392 = .ok (.ifCond .eq 5, 3) := by decide +kernel
theorem d_La_law_395 : decode m_La_law.2.1 395 = .ok (.iconst 0, 1) := by decide +kernel
theorem d_La_law_396 : decode m_La_law.2.1 396 = .ok (.ireturn, 1) := by decide +kernel
theorem d_La_law_397 : decode m_La_law.2.1 397 = .ok (.goto 884, 3) := by decide +kernel
theorem d_La_law_400 : decode m_La_law.2.1 400 = .ok (.aload_n 1, 1) := by decide +kernel
theorem d_La_law_401 : decode m_La_law.2.1 401 = .ok (.invokevirtual 102, 3) := by decide +kernel
theorem d_La_law_404 : decode m_La_law.2.1 404 = .ok (.aload_n 2, 1) := by decide +kernel
theorem d_La_law_405 : decode m_La_law.2.1 405 = .ok (.invokevirtual 105, 3) := by decide +kernel
theorem d_La_law_408 : decode m_La_law.2.1 408 = .ok (.if_icmp .eq 873, 3) := by decide +kernel
theorem d_La_law_411 : decode m_La_law.2.1 411 = .ok (.iconst 0, 1) := by decide +kernel
theorem d_La_law_412 : decode m_La_law.2.1 412 = .ok (.ireturn, 1) := by decide +kernel
theorem d_La_law_413 : decode m_La_law.2.1 413 = .ok (.aload_n 1, 1) := by decide +kernel
theorem d_La_law_414 : decode m_La_law.2.1 414 = .ok (.invokevirtual 106, 3) := by decide +kernel
theorem d_La_law_417 : decode m_La_law.2.1 417 = .ok (.aload_n 2, 1) := by decide +kernel
theorem d_La_law_418 : decode m_La_law.2.1 418 = .ok (.invokevirtual 109, 3) := by decide +kernel
theorem d_La_law_421 : decode m_La_law.2.1 421 = .ok (.if_icmp .eq 860, 3) := by decide +kernel
theorem d_La_law_424 : decode m_La_law.2.1 424 = .ok (.iconst 0, 1) := by decide +kernel
theorem d_La_law_425 : decode m_La_law.2.1 425 = .ok (.ireturn, 1) := by decide +kernel
theorem d_La_law_426 : decode m_La_law.2.1 426 = .ok (.aload_n 1, 1) := by decide +kernel
theorem d_La_law_427 : decode m_La_law.2.1 427 = .ok (.aload_n 0, 1) := by decide +kernel
theorem d_La_law_428 : decode m_La_law.2.1 428 = .ok (.iload 4, 2) := by decide +kernel
theorem d_La_law_430 : decode m_La_law.2.1 430 = .ok (.iconst 1, 1) := by decide +kernel
theorem d_La_law_431 : decode m_La_law.2.1 431 = .ok (.iadd, 1) := by decide +kernel
theorem d_La_law_432 : decode m_La_law.2.1 432 = .ok (.iaload, 1) := by decide +kernel
theorem d_La_law_433 : decode m_La_law.2.1 433 = .ok (.aload_n 3, 1) := by decide +kernel
theorem d_La_law_434 : decode m_La_law.2.1 434 = .ok (.invokestatic 110, 3) := by decide +kernel
theorem d_La_law_437 : decode m_La_law.2.1 437 = .ok (.istore 5, 2) := by decide +kernel
theorem d_La_law_439 : decode m_La_law.2.1 439 = .ok (.aload_n 2, 1) := by decide +kernel
theorem d_La_law_440 : decode m_La_law.2.1 440 = .ok (.aload_n 0, 1) := by decide +kernel
theorem d_La_law_441 : decode m_La_law.2.1 441 = .ok (.iload 4, 2) := by decide +kernel
theorem d_La_law_443 : decode m_La_law.2.1 443 = .ok (.iconst 1, 1) := by decide +kernel
theorem d_La_law_444 : decode m_La_law.2.1 444 = .ok (.iadd, 1) := by decide +kernel
theorem d_La_law_445 : decode m_La_law.2.1 445 = .ok (.iaload, 1) := by decide +kernel
theorem d_La_law_446 : decode m_La_law.2.1 446 = .ok (.invokevirtual 112, 3) := by decide +kernel
theorem d_La_law_449 : decode m_La_law.2.1 449 = .ok (.istore 6, 2) := by decide +kernel
theorem d_La_law_451 : decode m_La_law.2.1 451 = .ok (.aload_n 2, 1) := by decide +kernel
theorem d_La_law_452 : decode m_La_law.2.1 452 = .ok (.invokevirtual 86, 3) := by decide +kernel
theorem d_La_law_455 : decode m_La_law.2.1 455 = .ok (.iload 5, 2) := by decide +kernel
theorem d_La_law_457 : decode m_La_law.2.1 457 = .ok (.if_icmp .eq 5, 3) := by decide +kernel
theorem d_La_law_460 : decode m_La_law.2.1 460 = .ok (.iconst 0, 1) := by decide +kernel
theorem d_La_law_461 : decode m_La_law.2.1 461 = .ok (.ireturn, 1) := by decide +kernel
theorem d_La_law_462 : decode m_La_law.2.1 462 = .ok (.iload 5, 2) := by decide +kernel
theorem d_La_law_464 : decode m_La_law.2.1 464 = .ok (.ifCond .ne 15, 3) := by decide +kernel
theorem d_La_law_467 : decode m_La_law.2.1 467 = .ok (.aload_n 3, 1) := by decide +kernel
theorem d_La_law_468 : decode m_La_law.2.1 468 = .ok (.iconst 0, 1) := by decide +kernel
theorem d_La_law_469 : decode m_La_law.2.1 469 = .ok (.laload, 1) := by decide +kernel
theorem d_La_law_470 : decode m_La_law.2.1 470 = .ok (.iload 6, 2) := by decide +kernel
theorem d_La_law_472 : decode m_La_law.2.1 472 = .ok (.i2l, 1) := by decide +kernel
theorem d_La_law_473 : decode m_La_law.2.1 473 = .ok (.lcmp, 1) := by decide +kernel
theorem d_La_law_474 : decode m_La_law.2.1 474 = .ok (.ifCond .eq 5, 3) := by decide +kernel
theorem d_La_law_477 : decode m_La_law.2.1 477 = .ok (.iconst 0, 1) := by decide +kernel
theorem d_La_law_478 : decode m_La_law.2.1 478 = .ok (.ireturn, 1) := by decide +kernel
theorem d_La_law_479 : decode m_La_law.2.1 479 = .ok (.goto 802, 3) := by decide +kernel
theorem d_La_law_482 : decode m_La_law.2.1 482 = .ok (.aload_n 1, 1) := by decide +kernel
theorem d_La_law_483 : decode m_La_law.2.1 483 = .ok (.aload_n 0, 1) := by decide +kernel
theorem d_La_law_484 : decode m_La_law.2.1 484 = .ok (.iload 4, 2) := by decide +kernel
theorem d_La_law_486 : decode m_La_law.2.1 486 = .ok (.iconst 1, 1) := by decide +kernel
theorem d_La_law_487 : decode m_La_law.2.1 487 = .ok (.iadd, 1) := by decide +kernel
theorem d_La_law_488 : decode m_La_law.2.1 488 = .ok (.iaload, 1) := by decide +kernel
theorem d_La_law_489 : decode m_La_law.2.1 489 = .ok (.aload_n 3, 1) := by decide +kernel
theorem d_La_law_490 : decode m_La_law.2.1 490 = .ok (.invokestatic 113, 3) := by decide +kernel
theorem d_La_law_493 : decode m_La_law.2.1 493 = .ok (.istore 5, 2) := by decide +kernel
theorem d_La_law_495 : decode m_La_law.2.1 495 = .ok (.aload_n 2, 1) := by decide +kernel
theorem d_La_law_496 : decode m_La_law.2.1 496 = .ok (.aload_n 0, 1) := by decide +kernel
theorem d_La_law_497 : decode m_La_law.2.1 497 = .ok (.iload 4, 2) := by decide +kernel
theorem d_La_law_499 : decode m_La_law.2.1 499 = .ok (.iconst 1, 1) := by decide +kernel
theorem d_La_law_500 : decode m_La_law.2.1 500 = .ok (.iadd, 1) := by decide +kernel
theorem d_La_law_501 : decode m_La_law.2.1 501 = .ok (.iaload, 1) := by decide +kernel
theorem d_La_law_502 : decode m_La_law.2.1 502 = .ok (.invokevirtual 115, 3) := by decide +kernel
theorem d_La_law_505 : decode m_La_law.2.1 505 = .ok (.istore 6, 2) := by decide +kernel
theorem d_La_law_507 : decode m_La_law.2.1 507 = .ok (.aload_n 2, 1) := by decide +kernel
theorem d_La_law_508 : decode m_La_law.2.1 508 = .ok (.invokevirtual 86, 3) := by decide +kernel
theorem d_La_law_511 : decode m_La_law.2.1 511 = .ok (.iload 5, 2) := by decide +kernel
theorem d_La_law_513 : decode m_La_law.2.1 513 = .ok (.if_icmp .eq 5, 3) := by decide +kernel
theorem d_La_law_516 : decode m_La_law.2.1 516 = .ok (.iconst 0, 1) := by decide +kernel
theorem d_La_law_517 : decode m_La_law.2.1 517 = .ok (.ireturn, 1) := by decide +kernel
theorem d_La_law_518 : decode m_La_law.2.1 518 = .ok (.iload 5, 2) := by decide +kernel
theorem d_La_law_520 : decode m_La_law.2.1 520 = .ok (.ifCond .ne 15, 3) := by decide +kernel
theorem d_La_law_523 : decode m_La_law.2.1 523 = .ok (.aload_n 3, 1) := by decide +kernel
theorem d_La_law_524 : decode m_La_law.2.1 524 = .ok (.iconst 0, 1) := by decide +kernel
theorem d_La_law_525 : decode m_La_law.2.1 525 = .ok (.laload, 1) := by decide +kernel
theorem d_La_law_526 : decode m_La_law.2.1 526 = .ok (.iload 6, 2) := by decide +kernel
theorem d_La_law_528 : decode m_La_law.2.1 528 = .ok (.i2l, 1) := by decide +kernel
theorem d_La_law_529 : decode m_La_law.2.1 529 = .ok (.lcmp, 1) := by decide +kernel
theorem d_La_law_530 : decode m_La_law.2.1 530 = .ok (.ifCond .eq 5, 3) := by decide +kernel
theorem d_La_law_533 : decode m_La_law.2.1 533 = .ok (.iconst 0, 1) := by decide +kernel
theorem d_La_law_534 : decode m_La_law.2.1 534 = .ok (.ireturn, 1) := by decide +kernel
theorem d_La_law_535 : decode m_La_law.2.1 535 = .ok (.goto 746, 3) := by decide +kernel
theorem d_La_law_538 : decode m_La_law.2.1 538 = .ok (.aload_n 1, 1) := by decide +kernel
theorem d_La_law_539 : decode m_La_law.2.1 539 = .ok (.aload_n 0, 1) := by decide +kernel
theorem d_La_law_540 : decode m_La_law.2.1 540 = .ok (.iload 4, 2) := by decide +kernel
theorem d_La_law_542 : decode m_La_law.2.1 542 = .ok (.iconst 1, 1) := by decide +kernel
theorem d_La_law_543 : decode m_La_law.2.1 543 = .ok (.iadd, 1) := by decide +kernel
theorem d_La_law_544 : decode m_La_law.2.1 544 = .ok (.iaload, 1) := by decide +kernel
theorem d_La_law_545 : decode m_La_law.2.1 545 = .ok (.invokestatic 116, 3) := by decide +kernel
theorem d_La_law_548 : decode m_La_law.2.1 548 = .ok (.istore 5, 2) := by decide +kernel
theorem d_La_law_550 : decode m_La_law.2.1 550 = .ok (.aload_n 2, 1) := by decide +kernel
theorem d_La_law_551 : decode m_La_law.2.1 551 = .ok (.aload_n 0, 1) := by decide +kernel
theorem d_La_law_552 : decode m_La_law.2.1 552 = .ok (.iload 4, 2) := by decide +kernel
theorem d_La_law_554 : decode m_La_law.2.1 554 = .ok (.iconst 1, 1) := by decide +kernel
theorem d_La_law_555 : decode m_La_law.2.1 555 = .ok (.iadd, 1) := by decide +kernel
theorem d_La_law_556 : decode m_La_law.2.1 556 = .ok (.iaload, 1) := by decide +kernel
theorem d_La_law_557 : decode m_La_law.2.1 557 = .ok (.invokevirtual 118, 3) := by decide +kernel
theorem d_La_law_560 : decode m_La_law.2.1 560 = .ok (.aload_n 2, 1) := by decide +kernel
theorem d_La_law_561 : decode m_La_law.2.1 561 = .ok (.invokevirtual 86, 3) := by decide +kernel
theorem d_La_law_564 : decode m_La_law.2.1 564 = .ok (.iload 5, 2) := by decide +kernel
theorem d_La_law_566 : decode m_La_law.2.1 566 = .ok (.if_icmp .eq 5, 3) := by decide +kernel
theorem d_La_law_569 : decode m_La_law.2.1 569 = .ok (.iconst 0, 1) := by decide +kernel
theorem d_La_law_570 : decode m_La_law.2.1 570 = .ok (.ireturn, 1) := by decide +kernel
theorem d_La_law_571 : decode m_La_law.2.1 571 = .ok (.goto 710, 3) := by decide +kernel
theorem d_La_law_574 : decode m_La_law.2.1 574 = .ok (.aload_n 1, 1) := by decide +kernel
theorem d_La_law_575 : decode m_La_law.2.1 575 = .ok (.aload_n 0, 1) := by decide +kernel
theorem d_La_law_576 : decode m_La_law.2.1 576 = .ok (.iload 4, 2) := by decide +kernel
theorem d_La_law_578 : decode m_La_law.2.1 578 = .ok (.iconst 1, 1) := by decide +kernel
theorem d_La_law_579 : decode m_La_law.2.1 579 = .ok (.iadd, 1) := by decide +kernel
theorem d_La_law_580 : decode m_La_law.2.1 580 = .ok (.iaload, 1) := by decide +kernel
theorem d_La_law_581 : decode m_La_law.2.1 581 = .ok (.aload_n 3, 1) := by decide +kernel
theorem d_La_law_582 : decode m_La_law.2.1 582 = .ok (.invokestatic 119, 3) := by decide +kernel
theorem d_La_law_585 : decode m_La_law.2.1 585 = .ok (.istore 5, 2) := by decide +kernel
theorem d_La_law_587 : decode m_La_law.2.1 587 = .ok (.aload_n 2, 1) := by decide +kernel
theorem d_La_law_588 : decode m_La_law.2.1 588 = .ok (.aload_n 0, 1) := by decide +kernel
theorem d_La_law_589 : decode m_La_law.2.1 589 = .ok (.iload 4, 2) := by decide +kernel
theorem d_La_law_591 : decode m_La_law.2.1 591 = .ok (.iconst 1, 1) := by decide +kernel
theorem d_La_law_592 : decode m_La_law.2.1 592 = .ok (.iadd, 1) := by decide +kernel
theorem d_La_law_593 : decode m_La_law.2.1 593 = .ok (.iaload, 1) := by decide +kernel
theorem d_La_law_594 : decode m_La_law.2.1 594 = .ok (.invokevirtual 121, 3) := by decide +kernel
theorem d_La_law_597 : decode m_La_law.2.1 597 = .ok (.istore 6, 2) := by decide +kernel
theorem d_La_law_599 : decode m_La_law.2.1 599 = .ok (.aload_n 2, 1) := by decide +kernel
theorem d_La_law_600 : decode m_La_law.2.1 600 = .ok (.invokevirtual 86, 3) := by decide +kernel
theorem d_La_law_603 : decode m_La_law.2.1 603 = .ok (.iload 5, 2) := by decide +kernel
theorem d_La_law_605 : decode m_La_law.2.1 605 = .ok (.if_icmp .eq 5, 3) := by decide +kernel
theorem d_La_law_608 : decode m_La_law.2.1 608 = .ok (.iconst 0, 1) := by decide +kernel
theorem d_La_law_609 : decode m_La_law.2.1 609 = .ok (.ireturn, 1) := by decide +kernel
theorem d_La_law_610 : decode m_La_law.2.1 610 = .ok (.iload 5, 2) := by decide +kernel
theorem d_La_law_612 : decode m_La_law.2.1 612 = .ok (.ifCond .ne 15, 3) := by decide +kernel
theorem d_La_law_615 : decode m_La_law.2.1 615 = .ok (.aload_n 3, 1) := by decide +kernel
theorem d_La_law_616 : decode m_La_law.2.1 616 = .ok (.iconst 0, 1) := by decide +kernel
theorem d_La_law_617 : decode m_La_law.2.1 617 = .ok (.laload, 1) := by decide +kernel
theorem d_La_law_618 : decode m_La_law.2.1 618 = .ok (.iload 6, 2) := by decide +kernel
theorem d_La_law_620 : decode m_La_law.2.1 620 = .ok (.i2l, 1) := by decide +kernel
theorem d_La_law_621 : decode m_La_law.2.1 621 = .ok (.lcmp, 1) := by decide +kernel
theorem d_La_law_622 : decode m_La_law.2.1 622 = .ok (.ifCond .eq 5, 3) := by decide +kernel
theorem d_La_law_625 : decode m_La_law.2.1 625 = .ok (.iconst 0, 1) := by decide +kernel
theorem d_La_law_626 : decode m_La_law.2.1 626 = .ok (.ireturn, 1) := by decide +kernel
theorem d_La_law_627 : decode m_La_law.2.1 627 = .ok (.goto 654, 3) := by decide +kernel
theorem d_La_law_630 : decode m_La_law.2.1 630 = .ok (.aload_n 1, 1) := by decide +kernel
theorem d_La_law_631 : decode m_La_law.2.1 631 = .ok (.aload_n 0, 1) := by decide +kernel
theorem d_La_law_632 : decode m_La_law.2.1 632 = .ok (.iload 4, 2) := by decide +kernel
theorem d_La_law_634 : decode m_La_law.2.1 634 = .ok (.iconst 1, 1) := by decide +kernel
theorem d_La_law_635 : decode m_La_law.2.1 635 = .ok (.iadd, 1) := by decide +kernel
theorem d_La_law_636 : decode m_La_law.2.1 636 = .ok (.iaload, 1) := by decide +kernel
theorem d_La_law_637 : decode m_La_law.2.1 637 = .ok (.aload_n 0, 1) := by decide +kernel
theorem d_La_law_638 : decode m_La_law.2.1 638 = .ok (.iload 4, 2) := by decide +kernel
theorem d_La_law_640 : decode m_La_law.2.1 640 = .ok (.iconst 2, 1) := by decide +kernel
theorem d_La_law_641 : decode m_La_law.2.1 641 = .ok (.iadd, 1) := by decide +kernel
theorem d_La_law_642 : decode m_La_law.2.1 642 = .ok (.iaload, 1) := by decide +kernel
theorem d_La_law_643 : decode m_La_law.2.1 643 = .ok (.aload_n 3, 1) := by decide +kernel
theorem d_La_law_644 : decode m_La_law.2.1 644 = .ok (.invokestatic 122, 3) := by decide +kernel
theorem d_La_law_647 : decode m_La_law.2.1 647 = .ok (.istore 5, 2) := by decide +kernel
theorem d_La_law_649 : decode m_La_law.2.1 649 = .ok (.aload_n 2, 1) := by decide +kernel
theorem d_La_law_650 : decode m_La_law.2.1 650 = .ok (.aload_n 0, 1) := by decide +kernel
theorem d_La_law_651 : decode m_La_law.2.1 651 = .ok (.iload 4, 2) := by decide +kernel
theorem d_La_law_653 : decode m_La_law.2.1 653 = .ok (.iconst 1, 1) := by decide +kernel
theorem d_La_law_654 : decode m_La_law.2.1 654 = .ok (.iadd, 1) := by decide +kernel
theorem d_La_law_655 : decode m_La_law.2.1 655 = .ok (.iaload, 1) := by decide +kernel
theorem d_La_law_656 : decode m_La_law.2.1 656 = .ok (.aload_n 0, 1) := by decide +kernel
theorem d_La_law_657 : decode m_La_law.2.1 657 = .ok (.iload 4, 2) := by decide +kernel
theorem d_La_law_659 : decode m_La_law.2.1 659 = .ok (.iconst 2, 1) := by decide +kernel
theorem d_La_law_660 : decode m_La_law.2.1 660 = .ok (.iadd, 1) := by decide +kernel
theorem d_La_law_661 : decode m_La_law.2.1 661 = .ok (.iaload, 1) := by decide +kernel
theorem d_La_law_662 : decode m_La_law.2.1 662 = .ok (.invokevirtual 124, 3) := by decide +kernel
theorem d_La_law_665 : decode m_La_law.2.1 665 = .ok (.istore 6, 2) := by decide +kernel
theorem d_La_law_667 : decode m_La_law.2.1 667 = .ok (.aload_n 2, 1) := by decide +kernel
theorem d_La_law_668 : decode m_La_law.2.1 668 = .ok (.invokevirtual 86, 3) := by decide +kernel
theorem d_La_law_671 : decode m_La_law.2.1 671 = .ok (.iload 5, 2) := by decide +kernel
theorem d_La_law_673 : decode m_La_law.2.1 673 = .ok (.if_icmp .eq 5, 3) := by decide +kernel
theorem d_La_law_676 : decode m_La_law.2.1 676 = .ok (.iconst 0, 1) := by decide +kernel
theorem d_La_law_677 : decode m_La_law.2.1 677 = .ok (.ireturn, 1) := by decide +kernel
theorem d_La_law_678 : decode m_La_law.2.1 678 = .ok (.iload 5, 2) := by decide +kernel
theorem d_La_law_680 : decode m_La_law.2.1 680 = .ok (.ifCond .ne 15, 3) := by decide +kernel
theorem d_La_law_683 : decode m_La_law.2.1 683 = .ok (.aload_n 3, 1) := by decide +kernel
theorem d_La_law_684 : decode m_La_law.2.1 684 = .ok (.iconst 0, 1) := by decide +kernel
theorem d_La_law_685 : decode m_La_law.2.1 685 = .ok (.laload, 1) := by decide +kernel
theorem d_La_law_686 : decode m_La_law.2.1 686 = .ok (.iload 6, 2) := by decide +kernel
theorem d_La_law_688 : decode m_La_law.2.1 688 = .ok (.i2l, 1) := by decide +kernel
theorem d_La_law_689 : decode m_La_law.2.1 689 = .ok (.lcmp, 1) := by decide +kernel
theorem d_La_law_690 : decode m_La_law.2.1 690 = .ok (.ifCond .eq 5, 3) := by decide +kernel
theorem d_La_law_693 : decode m_La_law.2.1 693 = .ok (.iconst 0, 1) := by decide +kernel
theorem d_La_law_694 : decode m_La_law.2.1 694 = .ok (.ireturn, 1) := by decide +kernel
theorem d_La_law_695 : decode m_La_law.2.1 695 = .ok (.goto 586, 3) := by decide +kernel
theorem d_La_law_698 : decode m_La_law.2.1 698 = .ok (.aload_n 1, 1) := by decide +kernel
theorem d_La_law_699 : decode m_La_law.2.1 699 = .ok (.aload_n 0, 1) := by decide +kernel
theorem d_La_law_700 : decode m_La_law.2.1 700 = .ok (.iload 4, 2) := by decide +kernel
theorem d_La_law_702 : decode m_La_law.2.1 702 = .ok (.iconst 1, 1) := by decide +kernel
theorem d_La_law_703 : decode m_La_law.2.1 703 = .ok (.iadd, 1) := by decide +kernel
theorem d_La_law_704 : decode m_La_law.2.1 704 = .ok (.iaload, 1) := by decide +kernel
theorem d_La_law_705 : decode m_La_law.2.1 705 = .ok (.aload_n 0, 1) := by decide +kernel
theorem d_La_law_706 : decode m_La_law.2.1 706 = .ok (.iload 4, 2) := by decide +kernel
theorem d_La_law_708 : decode m_La_law.2.1 708 = .ok (.iconst 2, 1) := by decide +kernel
theorem d_La_law_709 : decode m_La_law.2.1 709 = .ok (.iadd, 1) := by decide +kernel
theorem d_La_law_710 : decode m_La_law.2.1 710 = .ok (.iaload, 1) := by decide +kernel
theorem d_La_law_711 : decode m_La_law.2.1 711 = .ok (.aload_n 0, 1) := by decide +kernel
theorem d_La_law_712 : decode m_La_law.2.1 712 = .ok (.iload 4, 2) := by decide +kernel
theorem d_La_law_714 : decode m_La_law.2.1 714 = .ok (.iconst 3, 1) := by decide +kernel
theorem d_La_law_715 : decode m_La_law.2.1 715 = .ok (.iadd, 1) := by decide +kernel
theorem d_La_law_716 : decode m_La_law.2.1 716 = .ok (.iaload, 1) := by decide +kernel
theorem d_La_law_717 : decode m_La_law.2.1 717 = .ok (.invokestatic 125, 3) := by decide +kernel
theorem d_La_law_720 : decode m_La_law.2.1 720 = .ok (.istore 5, 2) := by decide +kernel
theorem d_La_law_722 : decode m_La_law.2.1 722 = .ok (.aload_n 2, 1) := by decide +kernel
theorem d_La_law_723 : decode m_La_law.2.1 723 = .ok (.aload_n 0, 1) := by decide +kernel
theorem d_La_law_724 : decode m_La_law.2.1 724 = .ok (.iload 4, 2) := by decide +kernel
theorem d_La_law_726 : decode m_La_law.2.1 726 = .ok (.iconst 1, 1) := by decide +kernel
theorem d_La_law_727 : decode m_La_law.2.1 727 = .ok (.iadd, 1) := by decide +kernel
theorem d_La_law_728 : decode m_La_law.2.1 728 = .ok (.iaload, 1) := by decide +kernel
theorem d_La_law_729 : decode m_La_law.2.1 729 = .ok (.aload_n 0, 1) := by decide +kernel
theorem d_La_law_730 : decode m_La_law.2.1 730 = .ok (.iload 4, 2) := by decide +kernel
theorem d_La_law_732 : decode m_La_law.2.1 732 = .ok (.iconst 2, 1) := by decide +kernel
theorem d_La_law_733 : decode m_La_law.2.1 733 = .ok (.iadd, 1) := by decide +kernel
theorem d_La_law_734 : decode m_La_law.2.1 734 = .ok (.iaload, 1) := by decide +kernel
theorem d_La_law_735 : decode m_La_law.2.1 735 = .ok (.aload_n 0, 1) := by decide +kernel
theorem d_La_law_736 : decode m_La_law.2.1 736 = .ok (.iload 4, 2) := by decide +kernel
theorem d_La_law_738 : decode m_La_law.2.1 738 = .ok (.iconst 3, 1) := by decide +kernel
theorem d_La_law_739 : decode m_La_law.2.1 739 = .ok (.iadd, 1) := by decide +kernel
theorem d_La_law_740 : decode m_La_law.2.1 740 = .ok (.iaload, 1) := by decide +kernel
theorem d_La_law_741 : decode m_La_law.2.1 741 = .ok (.invokevirtual 128, 3) := by decide +kernel
theorem d_La_law_744 : decode m_La_law.2.1 744 = .ok (.aload_n 2, 1) := by decide +kernel
theorem d_La_law_745 : decode m_La_law.2.1 745 = .ok (.invokevirtual 86, 3) := by decide +kernel
theorem d_La_law_748 : decode m_La_law.2.1 748 = .ok (.iload 5, 2) := by decide +kernel
theorem d_La_law_750 : decode m_La_law.2.1 750 = .ok (.if_icmp .eq 5, 3) := by decide +kernel
theorem d_La_law_753 : decode m_La_law.2.1 753 = .ok (.iconst 0, 1) := by decide +kernel
theorem d_La_law_754 : decode m_La_law.2.1 754 = .ok (.ireturn, 1) := by decide +kernel
theorem d_La_law_755 : decode m_La_law.2.1 755 = .ok (.goto 526, 3) := by decide +kernel
theorem d_La_law_758 : decode m_La_law.2.1 758 = .ok (.aload_n 1, 1) := by decide +kernel
theorem d_La_law_759 : decode m_La_law.2.1 759 = .ok (.aload_n 0, 1) := by decide +kernel
theorem d_La_law_760 : decode m_La_law.2.1 760 = .ok (.iload 4, 2) := by decide +kernel
theorem d_La_law_762 : decode m_La_law.2.1 762 = .ok (.iconst 1, 1) := by decide +kernel
theorem d_La_law_763 : decode m_La_law.2.1 763 = .ok (.iadd, 1) := by decide +kernel
theorem d_La_law_764 : decode m_La_law.2.1 764 = .ok (.iaload, 1) := by decide +kernel
theorem d_La_law_765 : decode m_La_law.2.1 765 = .ok (.invokestatic 129, 3) := by decide +kernel
theorem d_La_law_768 : decode m_La_law.2.1 768 = .ok (.istore 5, 2) := by decide +kernel
theorem d_La_law_770 : decode m_La_law.2.1 770 = .ok (.aload_n 2, 1) := by decide +kernel
theorem d_La_law_771 : decode m_La_law.2.1 771 = .ok (.aload_n 0, 1) := by decide +kernel
theorem d_La_law_772 : decode m_La_law.2.1 772 = .ok (.iload 4, 2) := by decide +kernel
theorem d_La_law_774 : decode m_La_law.2.1 774 = .ok (.iconst 1, 1) := by decide +kernel
theorem d_La_law_775 : decode m_La_law.2.1 775 = .ok (.iadd, 1) := by decide +kernel
theorem d_La_law_776 : decode m_La_law.2.1 776 = .ok (.iaload, 1) := by decide +kernel
theorem d_La_law_777 : decode m_La_law.2.1 777 = .ok (.invokevirtual 131, 3) := by decide +kernel
theorem d_La_law_780 : decode m_La_law.2.1 780 = .ok (.aload_n 2, 1) := by decide +kernel
theorem d_La_law_781 : decode m_La_law.2.1 781 = .ok (.invokevirtual 86, 3) := by decide +kernel
theorem d_La_law_784 : decode m_La_law.2.1 784 = .ok (.iload 5, 2) := by decide +kernel
theorem d_La_law_786 : decode m_La_law.2.1 786 = .ok (.if_icmp .eq 5, 3) := by decide +kernel
theorem d_La_law_789 : decode m_La_law.2.1 789 = .ok (.iconst 0, 1) := by decide +kernel
theorem d_La_law_790 : decode m_La_law.2.1 790 = .ok (.ireturn, 1) := by decide +kernel
theorem d_La_law_791 : decode m_La_law.2.1 791 = .ok (.goto 490, 3) := by decide +kernel
theorem d_La_law_794 : decode m_La_law.2.1 794 = .ok (.aload_n 1, 1) := by decide +kernel
theorem d_La_law_795 : decode m_La_law.2.1 795 = .ok (.aload_n 0, 1) := by decide +kernel
theorem d_La_law_796 : decode m_La_law.2.1 796 = .ok (.iload 4, 2) := by decide +kernel
theorem d_La_law_798 : decode m_La_law.2.1 798 = .ok (.iconst 1, 1) := by decide +kernel
theorem d_La_law_799 : decode m_La_law.2.1 799 = .ok (.iadd, 1) := by decide +kernel
theorem d_La_law_800 : decode m_La_law.2.1 800 = .ok (.iaload, 1) := by decide +kernel
theorem d_La_law_801 : decode m_La_law.2.1 801 = .ok (.aload_n 0, 1) := by decide +kernel
theorem d_La_law_802 : decode m_La_law.2.1 802 = .ok (.iload 4, 2) := by decide +kernel
theorem d_La_law_804 : decode m_La_law.2.1 804 = .ok (.iconst 2, 1) := by decide +kernel
theorem d_La_law_805 : decode m_La_law.2.1 805 = .ok (.iadd, 1) := by decide +kernel
theorem d_La_law_806 : decode m_La_law.2.1 806 = .ok (.iaload, 1) := by decide +kernel
theorem d_La_law_807 : decode m_La_law.2.1 807 = .ok (.aload_n 3, 1) := by decide +kernel
theorem d_La_law_808 : decode m_La_law.2.1 808 = .ok (.invokestatic 132, 3) := by decide +kernel
theorem d_La_law_811 : decode m_La_law.2.1 811 = .ok (.istore 5, 2) := by decide +kernel
theorem d_La_law_813 : decode m_La_law.2.1 813 = .ok (.aload_n 2, 1) := by decide +kernel
theorem d_La_law_814 : decode m_La_law.2.1 814 = .ok (.aload_n 0, 1) := by decide +kernel
theorem d_La_law_815 : decode m_La_law.2.1 815 = .ok (.iload 4, 2) := by decide +kernel
theorem d_La_law_817 : decode m_La_law.2.1 817 = .ok (.iconst 1, 1) := by decide +kernel
theorem d_La_law_818 : decode m_La_law.2.1 818 = .ok (.iadd, 1) := by decide +kernel
theorem d_La_law_819 : decode m_La_law.2.1 819 = .ok (.iaload, 1) := by decide +kernel
theorem d_La_law_820 : decode m_La_law.2.1 820 = .ok (.aload_n 0, 1) := by decide +kernel
theorem d_La_law_821 : decode m_La_law.2.1 821 = .ok (.iload 4, 2) := by decide +kernel
theorem d_La_law_823 : decode m_La_law.2.1 823 = .ok (.iconst 2, 1) := by decide +kernel
theorem d_La_law_824 : decode m_La_law.2.1 824 = .ok (.iadd, 1) := by decide +kernel
theorem d_La_law_825 : decode m_La_law.2.1 825 = .ok (.iaload, 1) := by decide +kernel
theorem d_La_law_826 : decode m_La_law.2.1 826 = .ok (.invokevirtual 134, 3) := by decide +kernel
theorem d_La_law_829 : decode m_La_law.2.1 829 = .ok (.istore 6, 2) := by decide +kernel
theorem d_La_law_831 : decode m_La_law.2.1 831 = .ok (.aload_n 2, 1) := by decide +kernel
theorem d_La_law_832 : decode m_La_law.2.1 832 = .ok (.invokevirtual 86, 3) := by decide +kernel
theorem d_La_law_835 : decode m_La_law.2.1 835 = .ok (.iload 5, 2) := by decide +kernel
theorem d_La_law_837 : decode m_La_law.2.1 837 = .ok (.if_icmp .eq 5, 3) := by decide +kernel
theorem d_La_law_840 : decode m_La_law.2.1 840 = .ok (.iconst 0, 1) := by decide +kernel
theorem d_La_law_841 : decode m_La_law.2.1 841 = .ok (.ireturn, 1) := by decide +kernel
theorem d_La_law_842 : decode m_La_law.2.1 842 = .ok (.iload 5, 2) := by decide +kernel
theorem d_La_law_844 : decode m_La_law.2.1 844 = .ok (.ifCond .ne 22, 3) := by decide +kernel
theorem d_La_law_847 : decode m_La_law.2.1 847 = .ok (.aload_n 3, 1) := by decide +kernel
theorem d_La_law_848 : decode m_La_law.2.1 848 = .ok (.iconst 0, 1) := by decide +kernel
theorem d_La_law_849 : decode m_La_law.2.1 849 = .ok (.laload, 1) := by decide +kernel
theorem d_La_law_850 : decode m_La_law.2.1 850 = .ok (.iload 6, 2) := by decide +kernel
theorem d_La_law_852 : decode m_La_law.2.1 852 = .ok (.ifCond .eq 7, 3) := by decide +kernel
theorem d_La_law_855 : decode m_La_law.2.1 855 = .ok (.lconst 1, 1) := by decide +kernel
theorem d_La_law_856 : decode m_La_law.2.1 856 = .ok (.goto 4, 3) := by decide +kernel
theorem d_La_law_859 : decode m_La_law.2.1 859 = .ok (.lconst 0, 1) := by decide +kernel
theorem d_La_law_860 : decode m_La_law.2.1 860 = .ok (.lcmp, 1) := by decide +kernel
theorem d_La_law_861 : decode m_La_law.2.1 861 = .ok (.ifCond .eq 5, 3) := by decide +kernel
theorem d_La_law_864 : decode m_La_law.2.1 864 = .ok (.iconst 0, 1) := by decide +kernel
theorem d_La_law_865 : decode m_La_law.2.1 865 = .ok (.ireturn, 1) := by decide +kernel
theorem d_La_law_866 : decode m_La_law.2.1 866 = .ok (.goto 415, 3) := by decide +kernel
theorem d_La_law_869 : decode m_La_law.2.1 869 = .ok (.aload_n 1, 1) := by decide +kernel
theorem d_La_law_870 : decode m_La_law.2.1 870 = .ok (.aload_n 0, 1) := by decide +kernel
theorem d_La_law_871 : decode m_La_law.2.1 871 = .ok (.iload 4, 2) := by decide +kernel
theorem d_La_law_873 : decode m_La_law.2.1 873 = .ok (.iconst 1, 1) := by decide +kernel
theorem d_La_law_874 : decode m_La_law.2.1 874 = .ok (.iadd, 1) := by decide +kernel
theorem d_La_law_875 : decode m_La_law.2.1 875 = .ok (.iaload, 1) := by decide +kernel
theorem d_La_law_876 : decode m_La_law.2.1 876 = .ok (.aload_n 0, 1) := by decide +kernel
theorem d_La_law_877 : decode m_La_law.2.1 877 = .ok (.iload 4, 2) := by decide +kernel
theorem d_La_law_879 : decode m_La_law.2.1 879 = .ok (.iconst 2, 1) := by decide +kernel
theorem d_La_law_880 : decode m_La_law.2.1 880 = .ok (.iadd, 1) := by decide +kernel
theorem d_La_law_881 : decode m_La_law.2.1 881 = .ok (.iaload, 1) := by decide +kernel
theorem d_La_law_882 : decode m_La_law.2.1 882 = .ok (.aload_n 3, 1) := by decide +kernel
theorem d_La_law_883 : decode m_La_law.2.1 883 = .ok (.invokestatic 135, 3) := by decide +kernel
theorem d_La_law_886 : decode m_La_law.2.1 886 = .ok (.istore 5, 2) := by decide +kernel
theorem d_La_law_888 : decode m_La_law.2.1 888 = .ok (.aload_n 2, 1) := by decide +kernel
theorem d_La_law_889 : decode m_La_law.2.1 889 = .ok (.aload_n 0, 1) := by decide +kernel
theorem d_La_law_890 : decode m_La_law.2.1 890 = .ok (.iload 4, 2) := by decide +kernel
theorem d_La_law_892 : decode m_La_law.2.1 892 = .ok (.iconst 1, 1) := by decide +kernel
theorem d_La_law_893 : decode m_La_law.2.1 893 = .ok (.iadd, 1) := by decide +kernel
theorem d_La_law_894 : decode m_La_law.2.1 894 = .ok (.iaload, 1) := by decide +kernel
theorem d_La_law_895 : decode m_La_law.2.1 895 = .ok (.aload_n 0, 1) := by decide +kernel
theorem d_La_law_896 : decode m_La_law.2.1 896 = .ok (.iload 4, 2) := by decide +kernel
theorem d_La_law_898 : decode m_La_law.2.1 898 = .ok (.iconst 2, 1) := by decide +kernel
theorem d_La_law_899 : decode m_La_law.2.1 899 = .ok (.iadd, 1) := by decide +kernel
theorem d_La_law_900 : decode m_La_law.2.1 900 = .ok (.iaload, 1) := by decide +kernel
theorem d_La_law_901 : decode m_La_law.2.1 901 = .ok (.invokevirtual 137, 3) := by decide +kernel
theorem d_La_law_904 : decode m_La_law.2.1 904 = .ok (.istore 6, 2) := by decide +kernel
theorem d_La_law_906 : decode m_La_law.2.1 906 = .ok (.aload_n 2, 1) := by decide +kernel
theorem d_La_law_907 : decode m_La_law.2.1 907 = .ok (.invokevirtual 86, 3) := by decide +kernel
theorem d_La_law_910 : decode m_La_law.2.1 910 = .ok (.iload 5, 2) := by decide +kernel
theorem d_La_law_912 : decode m_La_law.2.1 912 = .ok (.if_icmp .eq 5, 3) := by decide +kernel
theorem d_La_law_915 : decode m_La_law.2.1 915 = .ok (.iconst 0, 1) := by decide +kernel
theorem d_La_law_916 : decode m_La_law.2.1 916 = .ok (.ireturn, 1) := by decide +kernel
theorem d_La_law_917 : decode m_La_law.2.1 917 = .ok (.iload 5, 2) := by decide +kernel
theorem d_La_law_919 : decode m_La_law.2.1 919 = .ok (.ifCond .ne 15, 3) := by decide +kernel
theorem d_La_law_922 : decode m_La_law.2.1 922 = .ok (.aload_n 3, 1) := by decide +kernel
theorem d_La_law_923 : decode m_La_law.2.1 923 = .ok (.iconst 0, 1) := by decide +kernel
theorem d_La_law_924 : decode m_La_law.2.1 924 = .ok (.laload, 1) := by decide +kernel
theorem d_La_law_925 : decode m_La_law.2.1 925 = .ok (.iload 6, 2) := by decide +kernel
theorem d_La_law_927 : decode m_La_law.2.1 927 = .ok (.i2l, 1) := by decide +kernel
theorem d_La_law_928 : decode m_La_law.2.1 928 = .ok (.lcmp, 1) := by decide +kernel
theorem d_La_law_929 : decode m_La_law.2.1 929 = .ok (.ifCond .eq 5, 3) := by decide +kernel
theorem d_La_law_932 : decode m_La_law.2.1 932 = .ok (.iconst 0, 1) := by decide +kernel
theorem d_La_law_933 : decode m_La_law.2.1 933 = .ok (.ireturn, 1) := by decide +kernel
theorem d_La_law_934 : decode m_La_law.2.1 934 = .ok (.goto 347, 3) := by decide +kernel
theorem d_La_law_937 : decode m_La_law.2.1 937 = .ok (.aload_n 1, 1) := by decide +kernel
theorem d_La_law_938 : decode m_La_law.2.1 938 = .ok (.aload_n 0, 1) := by decide +kernel
theorem d_La_law_939 : decode m_La_law.2.1 939 = .ok (.iload 4, 2) := by decide +kernel
theorem d_La_law_941 : decode m_La_law.2.1 941 = .ok (.iconst 1, 1) := by decide +kernel
theorem d_La_law_942 : decode m_La_law.2.1 942 = .ok (.iadd, 1) := by decide +kernel
theorem d_La_law_943 : decode m_La_law.2.1 943 = .ok (.iaload, 1) := by decide +kernel
theorem d_La_law_944 : decode m_La_law.2.1 944 = .ok (.aload_n 0, 1) := by decide +kernel
theorem d_La_law_945 : decode m_La_law.2.1 945 = .ok (.iload 4, 2) := by decide +kernel
theorem d_La_law_947 : decode m_La_law.2.1 947 = .ok (.iconst 2, 1) := by decide +kernel
theorem d_La_law_948 : decode m_La_law.2.1 948 = .ok (.iadd, 1) := by decide +kernel
theorem d_La_law_949 : decode m_La_law.2.1 949 = .ok (.iaload, 1) := by decide +kernel
theorem d_La_law_950 : decode m_La_law.2.1 950 = .ok (.aload_n 3, 1) := by decide +kernel
theorem d_La_law_951 : decode m_La_law.2.1 951 = .ok (.invokestatic 138, 3) := by decide +kernel
theorem d_La_law_954 : decode m_La_law.2.1 954 = .ok (.istore 5, 2) := by decide +kernel
theorem d_La_law_956 : decode m_La_law.2.1 956 = .ok (.aload_n 2, 1) := by decide +kernel
theorem d_La_law_957 : decode m_La_law.2.1 957 = .ok (.aload_n 0, 1) := by decide +kernel
theorem d_La_law_958 : decode m_La_law.2.1 958 = .ok (.iload 4, 2) := by decide +kernel
theorem d_La_law_960 : decode m_La_law.2.1 960 = .ok (.iconst 1, 1) := by decide +kernel
theorem d_La_law_961 : decode m_La_law.2.1 961 = .ok (.iadd, 1) := by decide +kernel
theorem d_La_law_962 : decode m_La_law.2.1 962 = .ok (.iaload, 1) := by decide +kernel
theorem d_La_law_963 : decode m_La_law.2.1 963 = .ok (.aload_n 0, 1) := by decide +kernel
theorem d_La_law_964 : decode m_La_law.2.1 964 = .ok (.iload 4, 2) := by decide +kernel
theorem d_La_law_966 : decode m_La_law.2.1 966 = .ok (.iconst 2, 1) := by decide +kernel
theorem d_La_law_967 : decode m_La_law.2.1 967 = .ok (.iadd, 1) := by decide +kernel
theorem d_La_law_968 : decode m_La_law.2.1 968 = .ok (.iaload, 1) := by decide +kernel
theorem d_La_law_969 : decode m_La_law.2.1 969 = .ok (.invokevirtual 140, 3) := by decide +kernel
theorem d_La_law_972 : decode m_La_law.2.1 972 = .ok (.istore 6, 2) := by decide +kernel
theorem d_La_law_974 : decode m_La_law.2.1 974 = .ok (.aload_n 2, 1) := by decide +kernel
theorem d_La_law_975 : decode m_La_law.2.1 975 = .ok (.invokevirtual 86, 3) := by decide +kernel
theorem d_La_law_978 : decode m_La_law.2.1 978 = .ok (.iload 5, 2) := by decide +kernel
theorem d_La_law_980 : decode m_La_law.2.1 980 = .ok (.if_icmp .eq 5, 3) := by decide +kernel
theorem d_La_law_983 : decode m_La_law.2.1 983 = .ok (.iconst 0, 1) := by decide +kernel
theorem d_La_law_984 : decode m_La_law.2.1 984 = .ok (.ireturn, 1) := by decide +kernel
theorem d_La_law_985 : decode m_La_law.2.1 985 = .ok (.iload 5, 2) := by decide +kernel
theorem d_La_law_987 : decode m_La_law.2.1 987 = .ok (.ifCond .ne 15, 3) := by decide +kernel
theorem d_La_law_990 : decode m_La_law.2.1 990 = .ok (.aload_n 3, 1) := by decide +kernel
theorem d_La_law_991 : decode m_La_law.2.1 991 = .ok (.iconst 0, 1) := by decide +kernel
theorem d_La_law_992 : decode m_La_law.2.1 992 = .ok (.laload, 1) := by decide +kernel
theorem d_La_law_993 : decode m_La_law.2.1 993 = .ok (.iload 6, 2) := by decide +kernel
theorem d_La_law_995 : decode m_La_law.2.1 995 = .ok (.i2l, 1) := by decide +kernel
theorem d_La_law_996 : decode m_La_law.2.1 996 = .ok (.lcmp, 1) := by decide +kernel
theorem d_La_law_997 : decode m_La_law.2.1 997 = .ok (.ifCond .eq 5, 3) := by decide +kernel
theorem d_La_law_1000 : decode m_La_law.2.1 1000 = .ok (.iconst 0, 1) := by decide +kernel
theorem d_La_law_1001 : decode m_La_law.2.1 1001 = .ok (.ireturn, 1) := by decide +kernel
theorem d_La_law_1002 : decode m_La_law.2.1 1002 = .ok (.goto 279, 3) := by decide +kernel
theorem d_La_law_1005 : decode m_La_law.2.1 1005 = .ok (.aload_n 1, 1) := by decide +kernel
theorem d_La_law_1006 : decode m_La_law.2.1 1006 = .ok (.aload_n 0, 1) := by decide +kernel
theorem d_La_law_1007 : decode m_La_law.2.1 1007 = .ok (.iload 4, 2) := by decide +kernel
theorem d_La_law_1009 : decode m_La_law.2.1 1009 = .ok (.iconst 1, 1) := by decide +kernel
theorem d_La_law_1010 : decode m_La_law.2.1 1010 = .ok (.iadd, 1) := by decide +kernel
theorem d_La_law_1011 : decode m_La_law.2.1 1011 = .ok (.iaload, 1) := by decide +kernel
theorem d_La_law_1012 : decode m_La_law.2.1 1012 = .ok (.aload_n 3, 1) := by decide +kernel
theorem d_La_law_1013 : decode m_La_law.2.1 1013 = .ok (.invokestatic 141, 3) := by decide +kernel
theorem d_La_law_1016 : decode m_La_law.2.1 1016 = .ok (.istore 5, 2) := by decide +kernel
theorem d_La_law_1018 : decode m_La_law.2.1 1018 = .ok (.aload_n 2, 1) := by decide +kernel
theorem d_La_law_1019 : decode m_La_law.2.1 1019 = .ok (.aload_n 0, 1) := by decide +kernel
theorem d_La_law_1020 : decode m_La_law.2.1 1020 = .ok (.iload 4, 2) := by decide +kernel
theorem d_La_law_1022 : decode m_La_law.2.1 1022 = .ok (.iconst 1, 1) := by decide +kernel
theorem d_La_law_1023 : decode m_La_law.2.1 1023 = .ok (.iadd, 1) := by decide +kernel
theorem d_La_law_1024 : decode m_La_law.2.1 1024 = .ok (.iaload, 1) := by decide +kernel
theorem d_La_law_1025 : decode m_La_law.2.1 1025 = .ok (.invokevirtual 143, 3) := by decide +kernel
theorem d_La_law_1028 : decode m_La_law.2.1 1028 = .ok (.istore 6, 2) := by decide +kernel
theorem d_La_law_1030 : decode m_La_law.2.1 1030 = .ok (.aload_n 2, 1) := by decide +kernel
theorem d_La_law_1031 : decode m_La_law.2.1 1031 = .ok (.invokevirtual 86, 3) := by decide +kernel
theorem d_La_law_1034 : decode m_La_law.2.1 1034 = .ok (.iload 5, 2) := by decide +kernel
theorem d_La_law_1036 : decode m_La_law.2.1 1036 = .ok (.if_icmp .eq 5, 3) := by decide +kernel
theorem d_La_law_1039 : decode m_La_law.2.1 1039 = .ok (.iconst 0, 1) := by decide +kernel
theorem d_La_law_1040 : decode m_La_law.2.1 1040 = .ok (.ireturn, 1) := by decide +kernel
theorem d_La_law_1041 : decode m_La_law.2.1 1041 = .ok (.iload 5, 2) := by decide +kernel
theorem d_La_law_1043 : decode m_La_law.2.1 1043 = .ok (.ifCond .ne 15, 3) := by decide +kernel
theorem d_La_law_1046 : decode m_La_law.2.1 1046 = .ok (.aload_n 3, 1) := by decide +kernel
theorem d_La_law_1047 : decode m_La_law.2.1 1047 = .ok (.iconst 0, 1) := by decide +kernel
theorem d_La_law_1048 : decode m_La_law.2.1 1048 = .ok (.laload, 1) := by decide +kernel
theorem d_La_law_1049 : decode m_La_law.2.1 1049 = .ok (.iload 6, 2) := by decide +kernel
theorem d_La_law_1051 : decode m_La_law.2.1 1051 = .ok (.i2l, 1) := by decide +kernel
theorem d_La_law_1052 : decode m_La_law.2.1 1052 = .ok (.lcmp, 1) := by decide +kernel
theorem d_La_law_1053 : decode m_La_law.2.1 1053 = .ok (.ifCond .eq 5, 3) := by decide +kernel
theorem d_La_law_1056 : decode m_La_law.2.1 1056 = .ok (.iconst 0, 1) := by decide +kernel
theorem d_La_law_1057 : decode m_La_law.2.1 1057 = .ok (.ireturn, 1) := by decide +kernel
theorem d_La_law_1058 : decode m_La_law.2.1 1058 = .ok (.goto 223, 3) := by decide +kernel
theorem d_La_law_1061 : decode m_La_law.2.1 1061 = .ok (.aload_n 1, 1) := by decide +kernel
theorem d_La_law_1062 : decode m_La_law.2.1 1062 = .ok (.aload_n 0, 1) := by decide +kernel
theorem d_La_law_1063 : decode m_La_law.2.1 1063 = .ok (.iload 4, 2) := by decide +kernel
theorem d_La_law_1065 : decode m_La_law.2.1 1065 = .ok (.iconst 1, 1) := by decide +kernel
theorem d_La_law_1066 : decode m_La_law.2.1 1066 = .ok (.iadd, 1) := by decide +kernel
theorem d_La_law_1067 : decode m_La_law.2.1 1067 = .ok (.iaload, 1) := by decide +kernel
theorem d_La_law_1068 : decode m_La_law.2.1 1068 = .ok (.aload_n 0, 1) := by decide +kernel
theorem d_La_law_1069 : decode m_La_law.2.1 1069 = .ok (.iload 4, 2) := by decide +kernel
theorem d_La_law_1071 : decode m_La_law.2.1 1071 = .ok (.iconst 2, 1) := by decide +kernel
theorem d_La_law_1072 : decode m_La_law.2.1 1072 = .ok (.iadd, 1) := by decide +kernel
theorem d_La_law_1073 : decode m_La_law.2.1 1073 = .ok (.iaload, 1) := by decide +kernel
theorem d_La_law_1074 : decode m_La_law.2.1 1074 = .ok (.aload_n 0, 1) := by decide +kernel
theorem d_La_law_1075 : decode m_La_law.2.1 1075 = .ok (.iload 4, 2) := by decide +kernel
theorem d_La_law_1077 : decode m_La_law.2.1 1077 = .ok (.iconst 3, 1) := by decide +kernel
theorem d_La_law_1078 : decode m_La_law.2.1 1078 = .ok (.iadd, 1) := by decide +kernel
theorem d_La_law_1079 : decode m_La_law.2.1 1079 = .ok (.iaload, 1) := by decide +kernel
theorem d_La_law_1080 : decode m_La_law.2.1 1080 = .ok (.ifCond .eq 7, 3) := by decide +kernel
theorem d_La_law_1083 : decode m_La_law.2.1 1083 = .ok (.iconst 1, 1) := by decide +kernel
theorem d_La_law_1084 : decode m_La_law.2.1 1084 = .ok (.goto 4, 3) := by decide +kernel
theorem d_La_law_1087 : decode m_La_law.2.1 1087 = .ok (.iconst 0, 1) := by decide +kernel
theorem d_La_law_1088 : decode m_La_law.2.1 1088 = .ok (.aload_n 3, 1) := by decide +kernel
theorem d_La_law_1089 : decode m_La_law.2.1 1089 = .ok (.invokestatic 144, 3) := by decide +kernel
theorem d_La_law_1092 : decode m_La_law.2.1 1092 = .ok (.istore 5, 2) := by decide +kernel
theorem d_La_law_1094 : decode m_La_law.2.1 1094 = .ok (.aload_n 2, 1) := by decide +kernel
theorem d_La_law_1095 : decode m_La_law.2.1 1095 = .ok (.aload_n 0, 1) := by decide +kernel
theorem d_La_law_1096 : decode m_La_law.2.1 1096 = .ok (.iload 4, 2) := by decide +kernel
theorem d_La_law_1098 : decode m_La_law.2.1 1098 = .ok (.iconst 1, 1) := by decide +kernel
theorem d_La_law_1099 : decode m_La_law.2.1 1099 = .ok (.iadd, 1) := by decide +kernel
theorem d_La_law_1100 : decode m_La_law.2.1 1100 = .ok (.iaload, 1) := by decide +kernel
theorem d_La_law_1101 : decode m_La_law.2.1 1101 = .ok (.aload_n 0, 1) := by decide +kernel
theorem d_La_law_1102 : decode m_La_law.2.1 1102 = .ok (.iload 4, 2) := by decide +kernel
theorem d_La_law_1104 : decode m_La_law.2.1 1104 = .ok (.iconst 2, 1) := by decide +kernel
theorem d_La_law_1105 : decode m_La_law.2.1 1105 = .ok (.iadd, 1) := by decide +kernel
theorem d_La_law_1106 : decode m_La_law.2.1 1106 = .ok (.iaload, 1) := by decide +kernel
theorem d_La_law_1107 : decode m_La_law.2.1 1107 = .ok (.aload_n 0, 1) := by decide +kernel
theorem d_La_law_1108 : decode m_La_law.2.1 1108 = .ok (.iload 4, 2) := by decide +kernel
theorem d_La_law_1110 : decode m_La_law.2.1 1110 = .ok (.iconst 3, 1) := by decide +kernel
theorem d_La_law_1111 : decode m_La_law.2.1 1111 = .ok (.iadd, 1) := by decide +kernel
theorem d_La_law_1112 : decode m_La_law.2.1 1112 = .ok (.iaload, 1) := by decide +kernel
theorem d_La_law_1113 : decode m_La_law.2.1 1113 = .ok (.ifCond .eq 7, 3) := by decide +kernel
theorem d_La_law_1116 : decode m_La_law.2.1 1116 = .ok (.iconst 1, 1) := by decide +kernel
theorem d_La_law_1117 : decode m_La_law.2.1 1117 = .ok (.goto 4, 3) := by decide +kernel
theorem d_La_law_1120 : decode m_La_law.2.1 1120 = .ok (.iconst 0, 1) := by decide +kernel
theorem d_La_law_1121 : decode m_La_law.2.1 1121 = .ok (.invokevirtual 147, 3) := by decide +kernel
theorem d_La_law_1124 : decode m_La_law.2.1 1124 = .ok (.istore 6, 2) := by decide +kernel
theorem d_La_law_1126 : decode m_La_law.2.1 1126 = .ok (.aload_n 2, 1) := by decide +kernel
theorem d_La_law_1127 : decode m_La_law.2.1 1127 = .ok (.invokevirtual 86, 3) := by decide +kernel
theorem d_La_law_1130 : decode m_La_law.2.1 1130 = .ok (.iload 5, 2) := by decide +kernel
theorem d_La_law_1132 : decode m_La_law.2.1 1132 = .ok (.if_icmp .eq 5, 3) := by decide +kernel
theorem d_La_law_1135 : decode m_La_law.2.1 1135 = .ok (.iconst 0, 1) := by decide +kernel
theorem d_La_law_1136 : decode m_La_law.2.1 1136 = .ok (.ireturn, 1) := by decide +kernel
theorem d_La_law_1137 : decode m_La_law.2.1 1137 = .ok (.iload 5, 2) := by decide +kernel
theorem d_La_law_1139 : decode m_La_law.2.1 1139 = .ok (.ifCond .ne 15, 3) := by decide +kernel
theorem d_La_law_1142 : decode m_La_law.2.1 1142 = .ok (.aload_n 3, 1) := by decide +kernel
theorem d_La_law_1143 : decode m_La_law.2.1 1143 = .ok (.iconst 0, 1) := by decide +kernel
theorem d_La_law_1144 : decode m_La_law.2.1 1144 = .ok (.laload, 1) := by decide +kernel
theorem d_La_law_1145 : decode m_La_law.2.1 1145 = .ok (.iload 6, 2) := by decide +kernel
theorem d_La_law_1147 : decode m_La_law.2.1 1147 = .ok (.i2l, 1) := by decide +kernel
theorem d_La_law_1148 : decode m_La_law.2.1 1148 = .ok (.lcmp, 1) := by decide +kernel
theorem d_La_law_1149 : decode m_La_law.2.1 1149 = .ok (.ifCond .eq 5, 3) := by decide +kernel
theorem d_La_law_1152 : decode m_La_law.2.1 1152 = .ok (.iconst 0, 1) := by decide +kernel
theorem d_La_law_1153 : decode m_La_law.2.1 1153 = .ok (.ireturn, 1) := by decide +kernel
theorem d_La_law_1154 : decode m_La_law.2.1 1154 = .ok (.goto 127, 3) := by decide +kernel
theorem d_La_law_1157 : decode m_La_law.2.1 1157 = .ok (.aload_n 1, 1) := by decide +kernel
theorem d_La_law_1158 : decode m_La_law.2.1 1158 = .ok (.aload_n 0, 1) := by decide +kernel
theorem d_La_law_1159 : decode m_La_law.2.1 1159 = .ok (.iload 4, 2) := by decide +kernel
theorem d_La_law_1161 : decode m_La_law.2.1 1161 = .ok (.iconst 1, 1) := by decide +kernel
theorem d_La_law_1162 : decode m_La_law.2.1 1162 = .ok (.iadd, 1) := by decide +kernel
theorem d_La_law_1163 : decode m_La_law.2.1 1163 = .ok (.iaload, 1) := by decide +kernel
theorem d_La_law_1164 : decode m_La_law.2.1 1164 = .ok (.aload_n 0, 1) := by decide +kernel
theorem d_La_law_1165 : decode m_La_law.2.1 1165 = .ok (.iload 4, 2) := by decide +kernel
theorem d_La_law_1167 : decode m_La_law.2.1 1167 = .ok (.iconst 2, 1) := by decide +kernel
theorem d_La_law_1168 : decode m_La_law.2.1 1168 = .ok (.iadd, 1) := by decide +kernel
theorem d_La_law_1169 : decode m_La_law.2.1 1169 = .ok (.iaload, 1) := by decide +kernel
theorem d_La_law_1170 : decode m_La_law.2.1 1170 = .ok (.aload_n 3, 1) := by decide +kernel
theorem d_La_law_1171 : decode m_La_law.2.1 1171 = .ok (.invokestatic 148, 3) := by decide +kernel
theorem d_La_law_1174 : decode m_La_law.2.1 1174 = .ok (.istore 5, 2) := by decide +kernel
theorem d_La_law_1176 : decode m_La_law.2.1 1176 = .ok (.aload_n 2, 1) := by decide +kernel
theorem d_La_law_1177 : decode m_La_law.2.1 1177 = .ok (.aload_n 0, 1) := by decide +kernel
theorem d_La_law_1178 : decode m_La_law.2.1 1178 = .ok (.iload 4, 2) := by decide +kernel
theorem d_La_law_1180 : decode m_La_law.2.1 1180 = .ok (.iconst 1, 1) := by decide +kernel
theorem d_La_law_1181 : decode m_La_law.2.1 1181 = .ok (.iadd, 1) := by decide +kernel
theorem d_La_law_1182 : decode m_La_law.2.1 1182 = .ok (.iaload, 1) := by decide +kernel
theorem d_La_law_1183 : decode m_La_law.2.1 1183 = .ok (.aload_n 0, 1) := by decide +kernel
theorem d_La_law_1184 : decode m_La_law.2.1 1184 = .ok (.iload 4, 2) := by decide +kernel
theorem d_La_law_1186 : decode m_La_law.2.1 1186 = .ok (.iconst 2, 1) := by decide +kernel
theorem d_La_law_1187 : decode m_La_law.2.1 1187 = .ok (.iadd, 1) := by decide +kernel
theorem d_La_law_1188 : decode m_La_law.2.1 1188 = .ok (.iaload, 1) := by decide +kernel
theorem d_La_law_1189 : decode m_La_law.2.1 1189 = .ok (.invokevirtual 150, 3) := by decide +kernel
theorem d_La_law_1192 : decode m_La_law.2.1 1192 = .ok (.istore 6, 2) := by decide +kernel
theorem d_La_law_1194 : decode m_La_law.2.1 1194 = .ok (.aload_n 2, 1) := by decide +kernel
theorem d_La_law_1195 : decode m_La_law.2.1 1195 = .ok (.invokevirtual 86, 3) := by decide +kernel
theorem d_La_law_1198 : decode m_La_law.2.1 1198 = .ok (.iload 5, 2) := by decide +kernel
theorem d_La_law_1200 : decode m_La_law.2.1 1200 = .ok (.if_icmp .eq 5, 3) := by decide +kernel
theorem d_La_law_1203 : decode m_La_law.2.1 1203 = .ok (.iconst 0, 1) := by decide +kernel
theorem d_La_law_1204 : decode m_La_law.2.1 1204 = .ok (.ireturn, 1) := by decide +kernel
theorem d_La_law_1205 : decode m_La_law.2.1 1205 = .ok (.iload 5, 2) := by decide +kernel
theorem d_La_law_1207 : decode m_La_law.2.1 1207 = .ok (.ifCond .ne 15, 3) := by decide +kernel
theorem d_La_law_1210 : decode m_La_law.2.1 1210 = .ok (.aload_n 3, 1) := by decide +kernel
theorem d_La_law_1211 : decode m_La_law.2.1 1211 = .ok (.iconst 0, 1) := by decide +kernel
theorem d_La_law_1212 : decode m_La_law.2.1 1212 = .ok (.laload, 1) := by decide +kernel
theorem d_La_law_1213 : decode m_La_law.2.1 1213 = .ok (.iload 6, 2) := by decide +kernel
theorem d_La_law_1215 : decode m_La_law.2.1 1215 = .ok (.i2l, 1) := by decide +kernel
theorem d_La_law_1216 : decode m_La_law.2.1 1216 = .ok (.lcmp, 1) := by decide +kernel
theorem d_La_law_1217 : decode m_La_law.2.1 1217 = .ok (.ifCond .eq 5, 3) := by decide +kernel
theorem d_La_law_1220 : decode m_La_law.2.1 1220 = .ok (.iconst 0, 1) := by decide +kernel
theorem d_La_law_1221 : decode m_La_law.2.1 1221 = .ok (.ireturn, 1) := by decide +kernel
theorem d_La_law_1222 : decode m_La_law.2.1 1222 = .ok (.goto 59, 3) := by decide +kernel
theorem d_La_law_1225 : decode m_La_law.2.1 1225 = .ok (.aload_n 1, 1) := by decide +kernel
theorem d_La_law_1226 : decode m_La_law.2.1 1226 = .ok (.aload_n 0, 1) := by decide +kernel
theorem d_La_law_1227 : decode m_La_law.2.1 1227 = .ok (.iload 4, 2) := by decide +kernel
theorem d_La_law_1229 : decode m_La_law.2.1 1229 = .ok (.iconst 1, 1) := by decide +kernel
theorem d_La_law_1230 : decode m_La_law.2.1 1230 = .ok (.iadd, 1) := by decide +kernel
theorem d_La_law_1231 : decode m_La_law.2.1 1231 = .ok (.iaload, 1) := by decide +kernel
theorem d_La_law_1232 : decode m_La_law.2.1 1232 = .ok (.aload_n 3, 1) := by decide +kernel
theorem d_La_law_1233 : decode m_La_law.2.1 1233 = .ok (.invokestatic 151, 3) := by decide +kernel
theorem d_La_law_1236 : decode m_La_law.2.1 1236 = .ok (.istore 5, 2) := by decide +kernel
theorem d_La_law_1238 : decode m_La_law.2.1 1238 = .ok (.aload_n 2, 1) := by decide +kernel
theorem d_La_law_1239 : decode m_La_law.2.1 1239 = .ok (.aload_n 0, 1) := by decide +kernel
theorem d_La_law_1240 : decode m_La_law.2.1 1240 = .ok (.iload 4, 2) := by decide +kernel
theorem d_La_law_1242 : decode m_La_law.2.1 1242 = .ok (.iconst 1, 1) := by decide +kernel
theorem d_La_law_1243 : decode m_La_law.2.1 1243 = .ok (.iadd, 1) := by decide +kernel
theorem d_La_law_1244 : decode m_La_law.2.1 1244 = .ok (.iaload, 1) := by decide +kernel
theorem d_La_law_1245 : decode m_La_law.2.1 1245 = .ok (.invokevirtual 153, 3) := by decide +kernel
theorem d_La_law_1248 : decode m_La_law.2.1 1248 = .ok (.istore 6, 2) := by decide +kernel
theorem d_La_law_1250 : decode m_La_law.2.1 1250 = .ok (.aload_n 2, 1) := by decide +kernel
theorem d_La_law_1251 : decode m_La_law.2.1 1251 = .ok (.invokevirtual 86, 3) := by decide +kernel
theorem d_La_law_1254 : decode m_La_law.2.1 1254 = .ok (.iload 5, 2) := by decide +kernel
theorem d_La_law_1256 : decode m_La_law.2.1 1256 = .ok (.if_icmp .eq 5, 3) := by decide +kernel
theorem d_La_law_1259 : decode m_La_law.2.1 1259 = .ok (.iconst 0, 1) := by decide +kernel
theorem d_La_law_1260 : decode m_La_law.2.1 1260 = .ok (.ireturn, 1) := by decide +kernel
theorem d_La_law_1261 : decode m_La_law.2.1 1261 = .ok (.iload 5, 2) := by decide +kernel
theorem d_La_law_1263 : decode m_La_law.2.1 1263 = .ok (.ifCond .ne 15, 3) := by decide +kernel
theorem d_La_law_1266 : decode m_La_law.2.1 1266 = .ok (.aload_n 3, 1) := by decide +kernel
theorem d_La_law_1267 : decode m_La_law.2.1 1267 = .ok (.iconst 0, 1) := by decide +kernel
theorem d_La_law_1268 : decode m_La_law.2.1 1268 = .ok (.laload, 1) := by decide +kernel
theorem d_La_law_1269 : decode m_La_law.2.1 1269 = .ok (.iload 6, 2) := by decide +kernel
theorem d_La_law_1271 : decode m_La_law.2.1 1271 = .ok (.i2l, 1) := by decide +kernel
theorem d_La_law_1272 : decode m_La_law.2.1 1272 = .ok (.lcmp, 1) := by decide +kernel
theorem d_La_law_1273 : decode m_La_law.2.1 1273 = .ok (.ifCond .eq 5, 3) := by decide +kernel
theorem d_La_law_1276 : decode m_La_law.2.1 1276 = .ok (.iconst 0, 1) := by decide +kernel
theorem d_La_law_1277 : decode m_La_law.2.1 1277 = .ok (.ireturn, 1) := by decide +kernel
theorem d_La_law_1278 : decode m_La_law.2.1 1278 = .ok (.goto 3, 3) := by decide +kernel
theorem d_La_law_1281 : decode m_La_law.2.1 1281 = .ok (.iinc 4 6, 3) := by decide +kernel
theorem d_La_law_1284 : decode m_La_law.2.1 1284 = .ok (.goto (-1261), 3) := by decide +kernel
theorem d_La_law_1287 : decode m_La_law.2.1 1287 = .ok (.iconst 1, 1) := by decide +kernel
theorem d_La_law_1288 : decode m_La_law.2.1 1288 = .ok (.ireturn, 1) := by decide +kernel
theorem t_La_law_0 {d : Nat} {st : List Value} {o0 : Option Value} {o1 : Option Value} {o2 : Option Value} {o3 : Option Value} {o4 : Option Value} {o5 : Option Value} {o6 : Option Value} {w : qk_W} {nc ns : Nat} {Q : Option Value ⊕ Nat → qk_W → Nat → Nat → Prop}  (v : Nat) (hv : 16 ≤ v) (hn : w v = none) (k : Ev d m_La_law 3 [o0, o1, o2, o3, o4, o5, o6] (.ref v :: st) (qk_set w v (.inr (0, [.null, .null, .null]))) (nc + 1) (ns + 3) Q) : Ev d m_La_law 0 [o0, o1, o2, o3, o4, o5, o6] st w nc ns Q := by
  exact ev_new v d_La_law_0 nl_La_8 hv hn k
theorem t_La_law_3 {d : Nat} {st : List Value} {o0 : Option Value} {o1 : Option Value} {o2 : Option Value} {o3 : Option Value} {o4 : Option Value} {o5 : Option Value} {o6 : Option Value} {b0 : Nat} {w : qk_W} {nc ns : Nat} {Q : Option Value ⊕ Nat → qk_W → Nat → Nat → Prop}  (h8 : ((.ref b0 :: st).map fun v => Value.category v).sum ≤ 8) (k : Ev d m_Q_init 0 [some (.ref b0)] [] w nc ns (fun r w1 nc1 ns1 => match r with | .inl v => Ev (d + 1) m_La_law 7 [o0, o1, o2, o3, o4, o5, o6] (v.toList ++ (.ref b0 :: st)) w1 nc1 ns1 Q | .inr x => Q (.inr x) w1 nc1 ns1)) : Ev (d + 1) m_La_law 3 [o0, o1, o2, o3, o4, o5, o6] (.ref b0 :: st) w nc ns Q := by
  refine ev_dup d_La_law_3 rfl ?_
  exact ev_call (M' := m_Q_init) (As := [.ref b0]) (st := (.ref b0 :: st)) d_La_law_4 i_Q_init ii_Q_init cw_La_76 rfl rfl trivial rfl (Nat.le_of_ble_eq_true rfl) h8 k
theorem t_La_law_7 {d : Nat} {st : List Value} {o0 : Option Value} {o1 : Option Value} {o2 : Option Value} {o3 : Option Value} {o4 : Option Value} {o5 : Option Value} {o6 : Option Value} {s0 : Value} {w : qk_W} {nc ns : Nat} {Q : Option Value ⊕ Nat → qk_W → Nat → Nat → Prop} (hs0 : qk_isr s0 = true) (v : Nat) (hv : 16 ≤ v) (hn : w v = none) (hc1 : qk_c2 [o0, o1, o2, o3, o4, o5, o6] 1 = true) (k : Ev d m_La_law 11 [o0, some s0, o2, o3, o4, o5, o6] (.ref v :: st) (qk_set w v (.inr (11, [.int 0, .null, .null, .null, .null, .int 0, .null, .null, .null, .null, .null, .int 0, .null, .int 0, .null, .null, .null, .int 0, .null, .null, .null, .int 0, .int 0, .int 0, .int 0, .int 0, .int 0, .int 0, .int 0, .long 0, .long 0, .null, .int 0, .int 0]))) (nc + 1) (ns + 34) Q) : Ev d m_La_law 7 [o0, o1, o2, o3, o4, o5, o6] (s0 :: st) w nc ns Q := by
  refine ev_astore_n d_La_law_7 hs0 (by decide) hc1 ?_
  exact ev_new v d_La_law_8 nl_La_77 hv hn k
theorem t_La_law_11 {d : Nat} {st : List Value} {o0 : Option Value} {o1 : Option Value} {o2 : Option Value} {o3 : Option Value} {o4 : Option Value} {o5 : Option Value} {o6 : Option Value} {b0 : Nat} {w : qk_W} {nc ns : Nat} {Q : Option Value ⊕ Nat → qk_W → Nat → Nat → Prop}  (h8 : ((.ref b0 :: st).map fun v => Value.category v).sum ≤ 8) (k : Ev d m_Mo_init 0 [some (.ref b0)] [] w nc ns (fun r w1 nc1 ns1 => match r with | .inl v => Ev (d + 1) m_La_law 15 [o0, o1, o2, o3, o4, o5, o6] (v.toList ++ (.ref b0 :: st)) w1 nc1 ns1 Q | .inr x => Q (.inr x) w1 nc1 ns1)) : Ev (d + 1) m_La_law 11 [o0, o1, o2, o3, o4, o5, o6] (.ref b0 :: st) w nc ns Q := by
  refine ev_dup d_La_law_11 rfl ?_
  exact ev_call (M' := m_Mo_init) (As := [.ref b0]) (st := (.ref b0 :: st)) d_La_law_12 i_Mo_init ii_Mo_init cw_La_79 rfl rfl trivial rfl (Nat.le_of_ble_eq_true rfl) h8 k
theorem t_La_law_15 {d : Nat} {st : List Value} {o0 : Option Value} {o1 : Option Value} {o2 : Option Value} {o3 : Option Value} {o4 : Option Value} {o5 : Option Value} {o6 : Option Value} {s0 : Value} {w : qk_W} {nc ns : Nat} {Q : Option Value ⊕ Nat → qk_W → Nat → Nat → Prop} (hs0 : qk_isr s0 = true) (v : Nat) (hv : 16 ≤ v) (hn : w v = none) (hc1 : qk_c2 [o0, o1, o2, o3, o4, o5, o6] 2 = true) (k : Ev d m_La_law 19 [o0, o1, some s0, o3, o4, o5, o6] (.ref v :: st) (qk_set w v (.inl (.long, (1, .inr (.inl (fun _ => 0)))))) (nc + 1) (ns + 1) Q) : Ev d m_La_law 15 [o0, o1, o2, o3, o4, o5, o6] (s0 :: st) w nc ns Q := by
  refine ev_astore_n d_La_law_15 hs0 (by decide) hc1 ?_
  refine ev_iconst 1 d_La_law_16 (by decide) ?_
  exact ev_newa v (1, .inr (.inl (fun _ => 0))) d_La_law_17 rfl (by decide) (lw_i5 _ (List.mem_of_getElem? (i := 228) rfl)) (fun C h => by cases h) (fun cA => rfl) (fun ρ => rfl) (fun w => trivial) (by decide) (by decide) (by decide) hv hn k
theorem t_La_law_19 {d : Nat} {st : List Value} {o0 : Option Value} {o1 : Option Value} {o2 : Option Value} {o3 : Option Value} {o4 : Option Value} {o5 : Option Value} {o6 : Option Value} {s0 : Value} {w : qk_W} {nc ns : Nat} {Q : Option Value ⊕ Nat → qk_W → Nat → Nat → Prop} (hs0 : qk_isr s0 = true) (hc1 : qk_c2 [o0, o1, o2, o3, o4, o5, o6] 3 = true) (hc2 : qk_c2 [o0, o1, o2, some s0, o4, o5, o6] 4 = true) (k : Ev d m_La_law 23 [o0, o1, o2, some s0, some (.int 0), o5, o6] st w nc ns Q) : Ev d m_La_law 19 [o0, o1, o2, o3, o4, o5, o6] (s0 :: st) w nc ns Q := by
  refine ev_astore_n d_La_law_19 hs0 (by decide) hc1 ?_
  refine ev_iconst 0 d_La_law_20 (by decide) ?_
  refine ev_istore d_La_law_21 (by decide) hc2 ?_
  exact k
theorem t_La_law_23 {d : Nat} {st : List Value} {a0 : Nat} {o1 : Option Value} {o2 : Option Value} {o3 : Option Value} {x4 : Int32} {o5 : Option Value} {o6 : Option Value} {q2 : vp_A} {n3 : Int32} {w : qk_W} {nc ns : Nat} {Q : Option Value ⊕ Nat → qk_W → Nat → Nat → Prop}  (ha1 : w a0 = some (.inl (.int, q2))) (hn4 : Int32.ofNat q2.1 = n3) (kt : (n3 - 6) < x4 → Ev d m_La_law 1287 [some (.ref a0), o1, o2, o3, some (.int x4), o5, o6] st w nc ns Q) (kf : ¬ ((n3 - 6) < x4) → Ev d m_La_law 33 [some (.ref a0), o1, o2, o3, some (.int x4), o5, o6] st w nc ns Q) : Ev d m_La_law 23 [some (.ref a0), o1, o2, o3, some (.int x4), o5, o6] st w nc ns Q := by
  refine ev_iload d_La_law_23 rfl ?_
  refine ev_aload_n d_La_law_25 rfl rfl ?_
  refine ev_alen d_La_law_26 (by decide) ha1 hn4 ?_
  refine ev_bipush 6 d_La_law_27 (by decide) ?_
  refine ev_isub d_La_law_29 ?_
  exact ev_icmp_gt 1287 d_La_law_30 (by decide) kt kf
theorem t_La_law_33_c0 {d : Nat} {st : List Value} {a0 : Nat} {o1 : Option Value} {o2 : Option Value} {o3 : Option Value} {x4 : Int32} {o5 : Option Value} {o6 : Option Value} {n2 : Nat} {f3 : Nat → Int32} {w : qk_W} {nc ns : Nat} {Q : Option Value ⊕ Nat → qk_W → Nat → Nat → Prop}  (ha1 : wi w a0 n2 f3) (hi4 : vp_in x4 n2) (hx : (f3 x4.toNatClampNeg) &&& 31 = 0) (k : Ev d m_La_law 136 [some (.ref a0), o1, o2, o3, some (.int x4), o5, o6] st w nc ns Q) : Ev d m_La_law 33 [some (.ref a0), o1, o2, o3, some (.int x4), o5, o6] st w nc ns Q := by
  refine ev_aload_n d_La_law_33 rfl rfl ?_
  refine ev_iload d_La_law_34 rfl ?_
  refine ev_iald d_La_law_36 ha1 hi4 ?_
  refine ev_bipush 31 d_La_law_37 (by decide) ?_
  refine ev_iand d_La_law_39 ?_
  exact ev_swIn 136 d_La_law_40 (by rw [hx]; decide) (by rw [hx]; decide) (by rw [hx]; rfl) (by decide) k
theorem t_La_law_33_c1 {d : Nat} {st : List Value} {a0 : Nat} {o1 : Option Value} {o2 : Option Value} {o3 : Option Value} {x4 : Int32} {o5 : Option Value} {o6 : Option Value} {n2 : Nat} {f3 : Nat → Int32} {w : qk_W} {nc ns : Nat} {Q : Option Value ⊕ Nat → qk_W → Nat → Nat → Prop}  (ha1 : wi w a0 n2 f3) (hi4 : vp_in x4 n2) (hx : (f3 x4.toNatClampNeg) &&& 31 = 1) (k : Ev d m_La_law 204 [some (.ref a0), o1, o2, o3, some (.int x4), o5, o6] st w nc ns Q) : Ev d m_La_law 33 [some (.ref a0), o1, o2, o3, some (.int x4), o5, o6] st w nc ns Q := by
  refine ev_aload_n d_La_law_33 rfl rfl ?_
  refine ev_iload d_La_law_34 rfl ?_
  refine ev_iald d_La_law_36 ha1 hi4 ?_
  refine ev_bipush 31 d_La_law_37 (by decide) ?_
  refine ev_iand d_La_law_39 ?_
  exact ev_swIn 204 d_La_law_40 (by rw [hx]; decide) (by rw [hx]; decide) (by rw [hx]; rfl) (by decide) k
theorem t_La_law_33_c2 {d : Nat} {st : List Value} {a0 : Nat} {o1 : Option Value} {o2 : Option Value} {o3 : Option Value} {x4 : Int32} {o5 : Option Value} {o6 : Option Value} {n2 : Nat} {f3 : Nat → Int32} {w : qk_W} {nc ns : Nat} {Q : Option Value ⊕ Nat → qk_W → Nat → Nat → Prop}  (ha1 : wi w a0 n2 f3) (hi4 : vp_in x4 n2) (hx : (f3 x4.toNatClampNeg) &&& 31 = 2) (k : Ev d m_La_law 308 [some (.ref a0), o1, o2, o3, some (.int x4), o5, o6] st w nc ns Q) : Ev d m_La_law 33 [some (.ref a0), o1, o2, o3, some (.int x4), o5, o6] st w nc ns Q := by
  refine ev_aload_n d_La_law_33 rfl rfl ?_
  refine ev_iload d_La_law_34 rfl ?_
  refine ev_iald d_La_law_36 ha1 hi4 ?_
  refine ev_bipush 31 d_La_law_37 (by decide) ?_
  refine ev_iand d_La_law_39 ?_
  exact ev_swIn 308 d_La_law_40 (by rw [hx]; decide) (by rw [hx]; decide) (by rw [hx]; rfl) (by decide) k
theorem t_La_law_33_c3 {d : Nat} {st : List Value} {a0 : Nat} {o1 : Option Value} {o2 : Option Value} {o3 : Option Value} {x4 : Int32} {o5 : Option Value} {o6 : Option Value} {n2 : Nat} {f3 : Nat → Int32} {w : qk_W} {nc ns : Nat} {Q : Option Value ⊕ Nat → qk_W → Nat → Nat → Prop}  (ha1 : wi w a0 n2 f3) (hi4 : vp_in x4 n2) (hx : (f3 x4.toNatClampNeg) &&& 31 = 3) (k : Ev d m_La_law 344 [some (.ref a0), o1, o2, o3, some (.int x4), o5, o6] st w nc ns Q) : Ev d m_La_law 33 [some (.ref a0), o1, o2, o3, some (.int x4), o5, o6] st w nc ns Q := by
  refine ev_aload_n d_La_law_33 rfl rfl ?_
  refine ev_iload d_La_law_34 rfl ?_
  refine ev_iald d_La_law_36 ha1 hi4 ?_
  refine ev_bipush 31 d_La_law_37 (by decide) ?_
  refine ev_iand d_La_law_39 ?_
  exact ev_swIn 344 d_La_law_40 (by rw [hx]; decide) (by rw [hx]; decide) (by rw [hx]; rfl) (by decide) k
theorem t_La_law_33_c4 {d : Nat} {st : List Value} {a0 : Nat} {o1 : Option Value} {o2 : Option Value} {o3 : Option Value} {x4 : Int32} {o5 : Option Value} {o6 : Option Value} {n2 : Nat} {f3 : Nat → Int32} {w : qk_W} {nc ns : Nat} {Q : Option Value ⊕ Nat → qk_W → Nat → Nat → Prop}  (ha1 : wi w a0 n2 f3) (hi4 : vp_in x4 n2) (hx : (f3 x4.toNatClampNeg) &&& 31 = 4) (k : Ev d m_La_law 400 [some (.ref a0), o1, o2, o3, some (.int x4), o5, o6] st w nc ns Q) : Ev d m_La_law 33 [some (.ref a0), o1, o2, o3, some (.int x4), o5, o6] st w nc ns Q := by
  refine ev_aload_n d_La_law_33 rfl rfl ?_
  refine ev_iload d_La_law_34 rfl ?_
  refine ev_iald d_La_law_36 ha1 hi4 ?_
  refine ev_bipush 31 d_La_law_37 (by decide) ?_
  refine ev_iand d_La_law_39 ?_
  exact ev_swIn 400 d_La_law_40 (by rw [hx]; decide) (by rw [hx]; decide) (by rw [hx]; rfl) (by decide) k
theorem t_La_law_33_c5 {d : Nat} {st : List Value} {a0 : Nat} {o1 : Option Value} {o2 : Option Value} {o3 : Option Value} {x4 : Int32} {o5 : Option Value} {o6 : Option Value} {n2 : Nat} {f3 : Nat → Int32} {w : qk_W} {nc ns : Nat} {Q : Option Value ⊕ Nat → qk_W → Nat → Nat → Prop}  (ha1 : wi w a0 n2 f3) (hi4 : vp_in x4 n2) (hx : (f3 x4.toNatClampNeg) &&& 31 = 5) (k : Ev d m_La_law 413 [some (.ref a0), o1, o2, o3, some (.int x4), o5, o6] st w nc ns Q) : Ev d m_La_law 33 [some (.ref a0), o1, o2, o3, some (.int x4), o5, o6] st w nc ns Q := by
  refine ev_aload_n d_La_law_33 rfl rfl ?_
  refine ev_iload d_La_law_34 rfl ?_
  refine ev_iald d_La_law_36 ha1 hi4 ?_
  refine ev_bipush 31 d_La_law_37 (by decide) ?_
  refine ev_iand d_La_law_39 ?_
  exact ev_swIn 413 d_La_law_40 (by rw [hx]; decide) (by rw [hx]; decide) (by rw [hx]; rfl) (by decide) k
theorem t_La_law_33_c6 {d : Nat} {st : List Value} {a0 : Nat} {o1 : Option Value} {o2 : Option Value} {o3 : Option Value} {x4 : Int32} {o5 : Option Value} {o6 : Option Value} {n2 : Nat} {f3 : Nat → Int32} {w : qk_W} {nc ns : Nat} {Q : Option Value ⊕ Nat → qk_W → Nat → Nat → Prop}  (ha1 : wi w a0 n2 f3) (hi4 : vp_in x4 n2) (hx : (f3 x4.toNatClampNeg) &&& 31 = 6) (k : Ev d m_La_law 426 [some (.ref a0), o1, o2, o3, some (.int x4), o5, o6] st w nc ns Q) : Ev d m_La_law 33 [some (.ref a0), o1, o2, o3, some (.int x4), o5, o6] st w nc ns Q := by
  refine ev_aload_n d_La_law_33 rfl rfl ?_
  refine ev_iload d_La_law_34 rfl ?_
  refine ev_iald d_La_law_36 ha1 hi4 ?_
  refine ev_bipush 31 d_La_law_37 (by decide) ?_
  refine ev_iand d_La_law_39 ?_
  exact ev_swIn 426 d_La_law_40 (by rw [hx]; decide) (by rw [hx]; decide) (by rw [hx]; rfl) (by decide) k
theorem t_La_law_33_c7 {d : Nat} {st : List Value} {a0 : Nat} {o1 : Option Value} {o2 : Option Value} {o3 : Option Value} {x4 : Int32} {o5 : Option Value} {o6 : Option Value} {n2 : Nat} {f3 : Nat → Int32} {w : qk_W} {nc ns : Nat} {Q : Option Value ⊕ Nat → qk_W → Nat → Nat → Prop}  (ha1 : wi w a0 n2 f3) (hi4 : vp_in x4 n2) (hx : (f3 x4.toNatClampNeg) &&& 31 = 7) (k : Ev d m_La_law 482 [some (.ref a0), o1, o2, o3, some (.int x4), o5, o6] st w nc ns Q) : Ev d m_La_law 33 [some (.ref a0), o1, o2, o3, some (.int x4), o5, o6] st w nc ns Q := by
  refine ev_aload_n d_La_law_33 rfl rfl ?_
  refine ev_iload d_La_law_34 rfl ?_
  refine ev_iald d_La_law_36 ha1 hi4 ?_
  refine ev_bipush 31 d_La_law_37 (by decide) ?_
  refine ev_iand d_La_law_39 ?_
  exact ev_swIn 482 d_La_law_40 (by rw [hx]; decide) (by rw [hx]; decide) (by rw [hx]; rfl) (by decide) k
theorem t_La_law_33_c8 {d : Nat} {st : List Value} {a0 : Nat} {o1 : Option Value} {o2 : Option Value} {o3 : Option Value} {x4 : Int32} {o5 : Option Value} {o6 : Option Value} {n2 : Nat} {f3 : Nat → Int32} {w : qk_W} {nc ns : Nat} {Q : Option Value ⊕ Nat → qk_W → Nat → Nat → Prop}  (ha1 : wi w a0 n2 f3) (hi4 : vp_in x4 n2) (hx : (f3 x4.toNatClampNeg) &&& 31 = 8) (k : Ev d m_La_law 538 [some (.ref a0), o1, o2, o3, some (.int x4), o5, o6] st w nc ns Q) : Ev d m_La_law 33 [some (.ref a0), o1, o2, o3, some (.int x4), o5, o6] st w nc ns Q := by
  refine ev_aload_n d_La_law_33 rfl rfl ?_
  refine ev_iload d_La_law_34 rfl ?_
  refine ev_iald d_La_law_36 ha1 hi4 ?_
  refine ev_bipush 31 d_La_law_37 (by decide) ?_
  refine ev_iand d_La_law_39 ?_
  exact ev_swIn 538 d_La_law_40 (by rw [hx]; decide) (by rw [hx]; decide) (by rw [hx]; rfl) (by decide) k
theorem t_La_law_33_c9 {d : Nat} {st : List Value} {a0 : Nat} {o1 : Option Value} {o2 : Option Value} {o3 : Option Value} {x4 : Int32} {o5 : Option Value} {o6 : Option Value} {n2 : Nat} {f3 : Nat → Int32} {w : qk_W} {nc ns : Nat} {Q : Option Value ⊕ Nat → qk_W → Nat → Nat → Prop}  (ha1 : wi w a0 n2 f3) (hi4 : vp_in x4 n2) (hx : (f3 x4.toNatClampNeg) &&& 31 = 9) (k : Ev d m_La_law 574 [some (.ref a0), o1, o2, o3, some (.int x4), o5, o6] st w nc ns Q) : Ev d m_La_law 33 [some (.ref a0), o1, o2, o3, some (.int x4), o5, o6] st w nc ns Q := by
  refine ev_aload_n d_La_law_33 rfl rfl ?_
  refine ev_iload d_La_law_34 rfl ?_
  refine ev_iald d_La_law_36 ha1 hi4 ?_
  refine ev_bipush 31 d_La_law_37 (by decide) ?_
  refine ev_iand d_La_law_39 ?_
  exact ev_swIn 574 d_La_law_40 (by rw [hx]; decide) (by rw [hx]; decide) (by rw [hx]; rfl) (by decide) k
theorem t_La_law_33_c10 {d : Nat} {st : List Value} {a0 : Nat} {o1 : Option Value} {o2 : Option Value} {o3 : Option Value} {x4 : Int32} {o5 : Option Value} {o6 : Option Value} {n2 : Nat} {f3 : Nat → Int32} {w : qk_W} {nc ns : Nat} {Q : Option Value ⊕ Nat → qk_W → Nat → Nat → Prop}  (ha1 : wi w a0 n2 f3) (hi4 : vp_in x4 n2) (hx : (f3 x4.toNatClampNeg) &&& 31 = 10) (k : Ev d m_La_law 630 [some (.ref a0), o1, o2, o3, some (.int x4), o5, o6] st w nc ns Q) : Ev d m_La_law 33 [some (.ref a0), o1, o2, o3, some (.int x4), o5, o6] st w nc ns Q := by
  refine ev_aload_n d_La_law_33 rfl rfl ?_
  refine ev_iload d_La_law_34 rfl ?_
  refine ev_iald d_La_law_36 ha1 hi4 ?_
  refine ev_bipush 31 d_La_law_37 (by decide) ?_
  refine ev_iand d_La_law_39 ?_
  exact ev_swIn 630 d_La_law_40 (by rw [hx]; decide) (by rw [hx]; decide) (by rw [hx]; rfl) (by decide) k
theorem t_La_law_33_c11 {d : Nat} {st : List Value} {a0 : Nat} {o1 : Option Value} {o2 : Option Value} {o3 : Option Value} {x4 : Int32} {o5 : Option Value} {o6 : Option Value} {n2 : Nat} {f3 : Nat → Int32} {w : qk_W} {nc ns : Nat} {Q : Option Value ⊕ Nat → qk_W → Nat → Nat → Prop}  (ha1 : wi w a0 n2 f3) (hi4 : vp_in x4 n2) (hx : (f3 x4.toNatClampNeg) &&& 31 = 11) (k : Ev d m_La_law 698 [some (.ref a0), o1, o2, o3, some (.int x4), o5, o6] st w nc ns Q) : Ev d m_La_law 33 [some (.ref a0), o1, o2, o3, some (.int x4), o5, o6] st w nc ns Q := by
  refine ev_aload_n d_La_law_33 rfl rfl ?_
  refine ev_iload d_La_law_34 rfl ?_
  refine ev_iald d_La_law_36 ha1 hi4 ?_
  refine ev_bipush 31 d_La_law_37 (by decide) ?_
  refine ev_iand d_La_law_39 ?_
  exact ev_swIn 698 d_La_law_40 (by rw [hx]; decide) (by rw [hx]; decide) (by rw [hx]; rfl) (by decide) k
theorem t_La_law_33_c12 {d : Nat} {st : List Value} {a0 : Nat} {o1 : Option Value} {o2 : Option Value} {o3 : Option Value} {x4 : Int32} {o5 : Option Value} {o6 : Option Value} {n2 : Nat} {f3 : Nat → Int32} {w : qk_W} {nc ns : Nat} {Q : Option Value ⊕ Nat → qk_W → Nat → Nat → Prop}  (ha1 : wi w a0 n2 f3) (hi4 : vp_in x4 n2) (hx : (f3 x4.toNatClampNeg) &&& 31 = 12) (k : Ev d m_La_law 758 [some (.ref a0), o1, o2, o3, some (.int x4), o5, o6] st w nc ns Q) : Ev d m_La_law 33 [some (.ref a0), o1, o2, o3, some (.int x4), o5, o6] st w nc ns Q := by
  refine ev_aload_n d_La_law_33 rfl rfl ?_
  refine ev_iload d_La_law_34 rfl ?_
  refine ev_iald d_La_law_36 ha1 hi4 ?_
  refine ev_bipush 31 d_La_law_37 (by decide) ?_
  refine ev_iand d_La_law_39 ?_
  exact ev_swIn 758 d_La_law_40 (by rw [hx]; decide) (by rw [hx]; decide) (by rw [hx]; rfl) (by decide) k
theorem t_La_law_33_c13 {d : Nat} {st : List Value} {a0 : Nat} {o1 : Option Value} {o2 : Option Value} {o3 : Option Value} {x4 : Int32} {o5 : Option Value} {o6 : Option Value} {n2 : Nat} {f3 : Nat → Int32} {w : qk_W} {nc ns : Nat} {Q : Option Value ⊕ Nat → qk_W → Nat → Nat → Prop}  (ha1 : wi w a0 n2 f3) (hi4 : vp_in x4 n2) (hx : (f3 x4.toNatClampNeg) &&& 31 = 13) (k : Ev d m_La_law 794 [some (.ref a0), o1, o2, o3, some (.int x4), o5, o6] st w nc ns Q) : Ev d m_La_law 33 [some (.ref a0), o1, o2, o3, some (.int x4), o5, o6] st w nc ns Q := by
  refine ev_aload_n d_La_law_33 rfl rfl ?_
  refine ev_iload d_La_law_34 rfl ?_
  refine ev_iald d_La_law_36 ha1 hi4 ?_
  refine ev_bipush 31 d_La_law_37 (by decide) ?_
  refine ev_iand d_La_law_39 ?_
  exact ev_swIn 794 d_La_law_40 (by rw [hx]; decide) (by rw [hx]; decide) (by rw [hx]; rfl) (by decide) k
theorem t_La_law_33_c14 {d : Nat} {st : List Value} {a0 : Nat} {o1 : Option Value} {o2 : Option Value} {o3 : Option Value} {x4 : Int32} {o5 : Option Value} {o6 : Option Value} {n2 : Nat} {f3 : Nat → Int32} {w : qk_W} {nc ns : Nat} {Q : Option Value ⊕ Nat → qk_W → Nat → Nat → Prop}  (ha1 : wi w a0 n2 f3) (hi4 : vp_in x4 n2) (hx : (f3 x4.toNatClampNeg) &&& 31 = 14) (k : Ev d m_La_law 869 [some (.ref a0), o1, o2, o3, some (.int x4), o5, o6] st w nc ns Q) : Ev d m_La_law 33 [some (.ref a0), o1, o2, o3, some (.int x4), o5, o6] st w nc ns Q := by
  refine ev_aload_n d_La_law_33 rfl rfl ?_
  refine ev_iload d_La_law_34 rfl ?_
  refine ev_iald d_La_law_36 ha1 hi4 ?_
  refine ev_bipush 31 d_La_law_37 (by decide) ?_
  refine ev_iand d_La_law_39 ?_
  exact ev_swIn 869 d_La_law_40 (by rw [hx]; decide) (by rw [hx]; decide) (by rw [hx]; rfl) (by decide) k
theorem t_La_law_33_c15 {d : Nat} {st : List Value} {a0 : Nat} {o1 : Option Value} {o2 : Option Value} {o3 : Option Value} {x4 : Int32} {o5 : Option Value} {o6 : Option Value} {n2 : Nat} {f3 : Nat → Int32} {w : qk_W} {nc ns : Nat} {Q : Option Value ⊕ Nat → qk_W → Nat → Nat → Prop}  (ha1 : wi w a0 n2 f3) (hi4 : vp_in x4 n2) (hx : (f3 x4.toNatClampNeg) &&& 31 = 15) (k : Ev d m_La_law 937 [some (.ref a0), o1, o2, o3, some (.int x4), o5, o6] st w nc ns Q) : Ev d m_La_law 33 [some (.ref a0), o1, o2, o3, some (.int x4), o5, o6] st w nc ns Q := by
  refine ev_aload_n d_La_law_33 rfl rfl ?_
  refine ev_iload d_La_law_34 rfl ?_
  refine ev_iald d_La_law_36 ha1 hi4 ?_
  refine ev_bipush 31 d_La_law_37 (by decide) ?_
  refine ev_iand d_La_law_39 ?_
  exact ev_swIn 937 d_La_law_40 (by rw [hx]; decide) (by rw [hx]; decide) (by rw [hx]; rfl) (by decide) k
theorem t_La_law_33_c16 {d : Nat} {st : List Value} {a0 : Nat} {o1 : Option Value} {o2 : Option Value} {o3 : Option Value} {x4 : Int32} {o5 : Option Value} {o6 : Option Value} {n2 : Nat} {f3 : Nat → Int32} {w : qk_W} {nc ns : Nat} {Q : Option Value ⊕ Nat → qk_W → Nat → Nat → Prop}  (ha1 : wi w a0 n2 f3) (hi4 : vp_in x4 n2) (hx : (f3 x4.toNatClampNeg) &&& 31 = 16) (k : Ev d m_La_law 1005 [some (.ref a0), o1, o2, o3, some (.int x4), o5, o6] st w nc ns Q) : Ev d m_La_law 33 [some (.ref a0), o1, o2, o3, some (.int x4), o5, o6] st w nc ns Q := by
  refine ev_aload_n d_La_law_33 rfl rfl ?_
  refine ev_iload d_La_law_34 rfl ?_
  refine ev_iald d_La_law_36 ha1 hi4 ?_
  refine ev_bipush 31 d_La_law_37 (by decide) ?_
  refine ev_iand d_La_law_39 ?_
  exact ev_swIn 1005 d_La_law_40 (by rw [hx]; decide) (by rw [hx]; decide) (by rw [hx]; rfl) (by decide) k
theorem t_La_law_33_c17 {d : Nat} {st : List Value} {a0 : Nat} {o1 : Option Value} {o2 : Option Value} {o3 : Option Value} {x4 : Int32} {o5 : Option Value} {o6 : Option Value} {n2 : Nat} {f3 : Nat → Int32} {w : qk_W} {nc ns : Nat} {Q : Option Value ⊕ Nat → qk_W → Nat → Nat → Prop}  (ha1 : wi w a0 n2 f3) (hi4 : vp_in x4 n2) (hx : (f3 x4.toNatClampNeg) &&& 31 = 17) (k : Ev d m_La_law 1061 [some (.ref a0), o1, o2, o3, some (.int x4), o5, o6] st w nc ns Q) : Ev d m_La_law 33 [some (.ref a0), o1, o2, o3, some (.int x4), o5, o6] st w nc ns Q := by
  refine ev_aload_n d_La_law_33 rfl rfl ?_
  refine ev_iload d_La_law_34 rfl ?_
  refine ev_iald d_La_law_36 ha1 hi4 ?_
  refine ev_bipush 31 d_La_law_37 (by decide) ?_
  refine ev_iand d_La_law_39 ?_
  exact ev_swIn 1061 d_La_law_40 (by rw [hx]; decide) (by rw [hx]; decide) (by rw [hx]; rfl) (by decide) k
theorem t_La_law_33_c18 {d : Nat} {st : List Value} {a0 : Nat} {o1 : Option Value} {o2 : Option Value} {o3 : Option Value} {x4 : Int32} {o5 : Option Value} {o6 : Option Value} {n2 : Nat} {f3 : Nat → Int32} {w : qk_W} {nc ns : Nat} {Q : Option Value ⊕ Nat → qk_W → Nat → Nat → Prop}  (ha1 : wi w a0 n2 f3) (hi4 : vp_in x4 n2) (hx : (f3 x4.toNatClampNeg) &&& 31 = 18) (k : Ev d m_La_law 1157 [some (.ref a0), o1, o2, o3, some (.int x4), o5, o6] st w nc ns Q) : Ev d m_La_law 33 [some (.ref a0), o1, o2, o3, some (.int x4), o5, o6] st w nc ns Q := by
  refine ev_aload_n d_La_law_33 rfl rfl ?_
  refine ev_iload d_La_law_34 rfl ?_
  refine ev_iald d_La_law_36 ha1 hi4 ?_
  refine ev_bipush 31 d_La_law_37 (by decide) ?_
  refine ev_iand d_La_law_39 ?_
  exact ev_swIn 1157 d_La_law_40 (by rw [hx]; decide) (by rw [hx]; decide) (by rw [hx]; rfl) (by decide) k
theorem t_La_law_33_c19 {d : Nat} {st : List Value} {a0 : Nat} {o1 : Option Value} {o2 : Option Value} {o3 : Option Value} {x4 : Int32} {o5 : Option Value} {o6 : Option Value} {n2 : Nat} {f3 : Nat → Int32} {w : qk_W} {nc ns : Nat} {Q : Option Value ⊕ Nat → qk_W → Nat → Nat → Prop}  (ha1 : wi w a0 n2 f3) (hi4 : vp_in x4 n2) (hx : (f3 x4.toNatClampNeg) &&& 31 = 19) (k : Ev d m_La_law 1225 [some (.ref a0), o1, o2, o3, some (.int x4), o5, o6] st w nc ns Q) : Ev d m_La_law 33 [some (.ref a0), o1, o2, o3, some (.int x4), o5, o6] st w nc ns Q := by
  refine ev_aload_n d_La_law_33 rfl rfl ?_
  refine ev_iload d_La_law_34 rfl ?_
  refine ev_iald d_La_law_36 ha1 hi4 ?_
  refine ev_bipush 31 d_La_law_37 (by decide) ?_
  refine ev_iand d_La_law_39 ?_
  exact ev_swIn 1225 d_La_law_40 (by rw [hx]; decide) (by rw [hx]; decide) (by rw [hx]; rfl) (by decide) k
theorem t_La_law_33_df {d : Nat} {st : List Value} {a0 : Nat} {o1 : Option Value} {o2 : Option Value} {o3 : Option Value} {x4 : Int32} {o5 : Option Value} {o6 : Option Value} {n2 : Nat} {f3 : Nat → Int32} {w : qk_W} {nc ns : Nat} {Q : Option Value ⊕ Nat → qk_W → Nat → Nat → Prop}  (ha1 : wi w a0 n2 f3) (hi4 : vp_in x4 n2) (hx : Int32.toInt ((f3 x4.toNatClampNeg) &&& 31) < 0 ∨ 19 < Int32.toInt ((f3 x4.toNatClampNeg) &&& 31)) (k : Ev d m_La_law 1281 [some (.ref a0), o1, o2, o3, some (.int x4), o5, o6] st w nc ns Q) : Ev d m_La_law 33 [some (.ref a0), o1, o2, o3, some (.int x4), o5, o6] st w nc ns Q := by
  refine ev_aload_n d_La_law_33 rfl rfl ?_
  refine ev_iload d_La_law_34 rfl ?_
  refine ev_iald d_La_law_36 ha1 hi4 ?_
  refine ev_bipush 31 d_La_law_37 (by decide) ?_
  refine ev_iand d_La_law_39 ?_
  exact ev_swOut 1281 d_La_law_40 hx (by decide) k
theorem t_La_law_136 {d : Nat} {st : List Value} {a0 : Nat} {a1 : Nat} {o2 : Option Value} {a3 : Nat} {x4 : Int32} {o5 : Option Value} {o6 : Option Value} {n2 : Nat} {f3 : Nat → Int32} {w : qk_W} {nc ns : Nat} {Q : Option Value ⊕ Nat → qk_W → Nat → Nat → Prop}  (ha1 : wi w a0 n2 f3) (hi4 : vp_in (x4 + 1) n2) (hi5 : vp_in (x4 + 2) n2) (h8 : (st.map fun v => Value.category v).sum ≤ 8) (k : Ev d m_La_sample 0 [some (.ref a1), some (.int (f3 (x4 + 1).toNatClampNeg)), some (.int (f3 (x4 + 2).toNatClampNeg)), some (.ref a3), none] [] w nc ns (fun r w1 nc1 ns1 => match r with | .inl v => Ev (d + 1) m_La_law 153 [some (.ref a0), some (.ref a1), o2, some (.ref a3), some (.int x4), o5, o6] (v.toList ++ st) w1 nc1 ns1 Q | .inr x => Q (.inr x) w1 nc1 ns1)) : Ev (d + 1) m_La_law 136 [some (.ref a0), some (.ref a1), o2, some (.ref a3), some (.int x4), o5, o6] st w nc ns Q := by
  refine ev_aload_n d_La_law_136 rfl rfl ?_
  refine ev_aload_n d_La_law_137 rfl rfl ?_
  refine ev_iload d_La_law_138 rfl ?_
  refine ev_iconst 1 d_La_law_140 (by decide) ?_
  refine ev_iadd d_La_law_141 ?_
  refine ev_iald d_La_law_142 ha1 hi4 ?_
  refine ev_aload_n d_La_law_143 rfl rfl ?_
  refine ev_iload d_La_law_144 rfl ?_
  refine ev_iconst 2 d_La_law_146 (by decide) ?_
  refine ev_iadd d_La_law_147 ?_
  refine ev_iald d_La_law_148 ha1 hi5 ?_
  refine ev_aload_n d_La_law_149 rfl rfl ?_
  exact ev_call (M' := m_La_sample) (As := [.ref a1, .int (f3 (x4 + 1).toNatClampNeg), .int (f3 (x4 + 2).toNatClampNeg), .ref a3]) (st := st) d_La_law_150 i_La_sample (fun h => absurd h (by decide +kernel)) cw_La_80 rfl rfl trivial rfl (Nat.le_of_ble_eq_true rfl) h8 k
theorem t_La_law_153 {d : Nat} {st : List Value} {a0 : Nat} {o1 : Option Value} {a2 : Nat} {o3 : Option Value} {x4 : Int32} {o5 : Option Value} {o6 : Option Value} {y0 : Int32} {n3 : Nat} {f4 : Nat → Int32} {fsb : List Value} {w : qk_W} {nc ns : Nat} {Q : Option Value ⊕ Nat → qk_W → Nat → Nat → Prop}  (hc1 : qk_c2 [some (.ref a0), o1, some (.ref a2), o3, some (.int x4), o5, o6] 5 = true) (ha2 : wi w a0 n3 f4) (hi5 : vp_in (x4 + 1) n3) (hi6 : vp_in (x4 + 2) n3) (hb : wo w a2 11 fsb) (h8 : (st.map fun v => Value.category v).sum ≤ 8) (k : Ev d m_Mo_sample 0 [some (.ref a2), some (.int (f4 (x4 + 1).toNatClampNeg)), some (.int (f4 (x4 + 2).toNatClampNeg))] [] w nc ns (fun r w1 nc1 ns1 => match r with | .inl v => Ev (d + 1) m_La_law 171 [some (.ref a0), o1, some (.ref a2), o3, some (.int x4), some (.int y0), o6] (v.toList ++ st) w1 nc1 ns1 Q | .inr x => Q (.inr x) w1 nc1 ns1)) : Ev (d + 1) m_La_law 153 [some (.ref a0), o1, some (.ref a2), o3, some (.int x4), o5, o6] (.int y0 :: st) w nc ns Q := by
  refine ev_istore d_La_law_153 (by decide) hc1 ?_
  refine ev_aload_n d_La_law_155 rfl rfl ?_
  refine ev_aload_n d_La_law_156 rfl rfl ?_
  refine ev_iload d_La_law_157 rfl ?_
  refine ev_iconst 1 d_La_law_159 (by decide) ?_
  refine ev_iadd d_La_law_160 ?_
  refine ev_iald d_La_law_161 ha2 hi5 ?_
  refine ev_aload_n d_La_law_162 rfl rfl ?_
  refine ev_iload d_La_law_163 rfl ?_
  refine ev_iconst 2 d_La_law_165 (by decide) ?_
  refine ev_iadd d_La_law_166 ?_
  refine ev_iald d_La_law_167 ha2 hi6 ?_
  exact ev_call (M' := m_Mo_sample) (As := [.ref a2, .int (f4 (x4 + 1).toNatClampNeg), .int (f4 (x4 + 2).toNatClampNeg)]) (st := st) d_La_law_168 i_Mo_sample (fun h => absurd h (by decide +kernel)) cw_La_85 rfl rfl ⟨hb.1, 11, _, _, hb.2, rfl, rfl⟩ rfl (Nat.le_of_ble_eq_true rfl) h8 k
theorem t_La_law_171 {d : Nat} {st : List Value} {o0 : Option Value} {o1 : Option Value} {a2 : Nat} {o3 : Option Value} {o4 : Option Value} {o5 : Option Value} {o6 : Option Value} {y0 : Int32} {fsb : List Value} {w : qk_W} {nc ns : Nat} {Q : Option Value ⊕ Nat → qk_W → Nat → Nat → Prop}  (hc1 : qk_c2 [o0, o1, some (.ref a2), o3, o4, o5, o6] 6 = true) (hb : wo w a2 11 fsb) (h8 : (st.map fun v => Value.category v).sum ≤ 8) (k : Ev d m_Mo_thrown 0 [some (.ref a2)] [] w nc ns (fun r w1 nc1 ns1 => match r with | .inl v => Ev (d + 1) m_La_law 177 [o0, o1, some (.ref a2), o3, o4, o5, some (.int y0)] (v.toList ++ st) w1 nc1 ns1 Q | .inr x => Q (.inr x) w1 nc1 ns1)) : Ev (d + 1) m_La_law 171 [o0, o1, some (.ref a2), o3, o4, o5, o6] (.int y0 :: st) w nc ns Q := by
  refine ev_istore d_La_law_171 (by decide) hc1 ?_
  refine ev_aload_n d_La_law_173 rfl rfl ?_
  exact ev_call (M' := m_Mo_thrown) (As := [.ref a2]) (st := st) d_La_law_174 i_Mo_thrown (fun h => absurd h (by decide +kernel)) cw_La_86 rfl rfl ⟨hb.1, 11, _, _, hb.2, rfl, rfl⟩ rfl (Nat.le_of_ble_eq_true rfl) h8 k
theorem t_La_law_177 {d : Nat} {st : List Value} {o0 : Option Value} {o1 : Option Value} {o2 : Option Value} {o3 : Option Value} {o4 : Option Value} {x5 : Int32} {o6 : Option Value} {y0 : Int32} {w : qk_W} {nc ns : Nat} {Q : Option Value ⊕ Nat → qk_W → Nat → Nat → Prop}   (kt : y0 = x5 → Ev d m_La_law 184 [o0, o1, o2, o3, o4, some (.int x5), o6] st w nc ns Q) (kf : ¬ (y0 = x5) → Ev d m_La_law 182 [o0, o1, o2, o3, o4, some (.int x5), o6] st w nc ns Q) : Ev d m_La_law 177 [o0, o1, o2, o3, o4, some (.int x5), o6] (.int y0 :: st) w nc ns Q := by
  refine ev_iload d_La_law_177 rfl ?_
  exact ev_icmp_eq 184 d_La_law_179 (by decide) kt kf
theorem t_La_law_182 {d : Nat} {o0 : Option Value} {o1 : Option Value} {o2 : Option Value} {o3 : Option Value} {o4 : Option Value} {o5 : Option Value} {o6 : Option Value} {w : qk_W} {nc ns : Nat} {Q : Option Value ⊕ Nat → qk_W → Nat → Nat → Prop}   (hq : Q (.inl (some (.int 0))) w nc ns) : Ev d m_La_law 182 [o0, o1, o2, o3, o4, o5, o6] [] w nc ns Q := by
  refine ev_iconst 0 d_La_law_182 (by decide) ?_
  exact ev_iret d_La_law_183 rfl rfl hq
theorem t_La_law_184 {d : Nat} {st : List Value} {o0 : Option Value} {o1 : Option Value} {o2 : Option Value} {o3 : Option Value} {o4 : Option Value} {x5 : Int32} {o6 : Option Value} {w : qk_W} {nc ns : Nat} {Q : Option Value ⊕ Nat → qk_W → Nat → Nat → Prop}   (kt : ¬ x5 = 0 → Ev d m_La_law 201 [o0, o1, o2, o3, o4, some (.int x5), o6] st w nc ns Q) (kf : x5 = 0 → Ev d m_La_law 189 [o0, o1, o2, o3, o4, some (.int x5), o6] st w nc ns Q) : Ev d m_La_law 184 [o0, o1, o2, o3, o4, some (.int x5), o6] st w nc ns Q := by
  refine ev_iload d_La_law_184 rfl ?_
  exact ev_if_ne 201 d_La_law_186 (by decide) kt kf
theorem t_La_law_189 {d : Nat} {st : List Value} {o0 : Option Value} {o1 : Option Value} {o2 : Option Value} {a3 : Nat} {o4 : Option Value} {o5 : Option Value} {x6 : Int32} {n2 : Nat} {f3 : Nat → Int64} {w : qk_W} {nc ns : Nat} {Q : Option Value ⊕ Nat → qk_W → Nat → Nat → Prop}  (ha1 : wl w a3 n2 f3) (hi4 : vp_in 0 n2) (kt : (lg_cmp (f3 (0 : Int32).toNatClampNeg) (Int32.toInt64 x6)) = 0 → Ev d m_La_law 201 [o0, o1, o2, some (.ref a3), o4, o5, some (.int x6)] st w nc ns Q) (kf : ¬ ((lg_cmp (f3 (0 : Int32).toNatClampNeg) (Int32.toInt64 x6)) = 0) → Ev d m_La_law 199 [o0, o1, o2, some (.ref a3), o4, o5, some (.int x6)] st w nc ns Q) : Ev d m_La_law 189 [o0, o1, o2, some (.ref a3), o4, o5, some (.int x6)] st w nc ns Q := by
  refine ev_aload_n d_La_law_189 rfl rfl ?_
  refine ev_iconst 0 d_La_law_190 (by decide) ?_
  refine ev_lald d_La_law_191 ha1.1 ha1.2 hi4 ?_
  refine ev_iload d_La_law_192 rfl ?_
  refine ev_i2l d_La_law_194 ?_
  refine ev_lcmp d_La_law_195 ?_
  exact ev_if_eq 201 d_La_law_196 (by decide) kt kf
theorem t_La_law_199 {d : Nat} {o0 : Option Value} {o1 : Option Value} {o2 : Option Value} {o3 : Option Value} {o4 : Option Value} {o5 : Option Value} {o6 : Option Value} {w : qk_W} {nc ns : Nat} {Q : Option Value ⊕ Nat → qk_W → Nat → Nat → Prop}   (hq : Q (.inl (some (.int 0))) w nc ns) : Ev d m_La_law 199 [o0, o1, o2, o3, o4, o5, o6] [] w nc ns Q := by
  refine ev_iconst 0 d_La_law_199 (by decide) ?_
  exact ev_iret d_La_law_200 rfl rfl hq
theorem t_La_law_201 {d : Nat} {st : List Value} {o0 : Option Value} {o1 : Option Value} {o2 : Option Value} {o3 : Option Value} {x4 : Int32} {o5 : Option Value} {o6 : Option Value} {w : qk_W} {nc ns : Nat} {Q : Option Value ⊕ Nat → qk_W → Nat → Nat → Prop}  (hc1 : qk_c2 [o0, o1, o2, o3, some (.int x4), o5, o6] 4 = true) (k : Ev d m_La_law 23 [o0, o1, o2, o3, some (.int (x4 + 6)), o5, o6] st w nc ns Q) : Ev d m_La_law 201 [o0, o1, o2, o3, some (.int x4), o5, o6] st w nc ns Q := by
  refine ev_goto 1281 d_La_law_201 (by decide) ?_
  refine ev_iinc 6 d_La_law_1281 (by decide) rfl (by decide) hc1 ?_
  refine ev_goto 23 d_La_law_1284 (by decide) ?_
  exact k
theorem t_La_law_204 {d : Nat} {st : List Value} {a0 : Nat} {a1 : Nat} {o2 : Option Value} {a3 : Nat} {x4 : Int32} {o5 : Option Value} {o6 : Option Value} {n2 : Nat} {f3 : Nat → Int32} {w : qk_W} {nc ns : Nat} {Q : Option Value ⊕ Nat → qk_W → Nat → Nat → Prop}  (ha1 : wi w a0 n2 f3) (hi4 : vp_in (x4 + 1) n2) (hi5 : vp_in (x4 + 2) n2) (hi6 : vp_in (x4 + 3) n2) (hi7 : vp_in (x4 + 4) n2) (hi8 : vp_in (x4 + 5) n2) (h8 : (st.map fun v => Value.category v).sum ≤ 8) (k : Ev d m_La_samples 0 [some (.ref a1), some (.int (f3 (x4 + 1).toNatClampNeg)), some (.int (f3 (x4 + 2).toNatClampNeg)), some (.int (f3 (x4 + 3).toNatClampNeg)), some (.int (f3 (x4 + 4).toNatClampNeg)), some (.int (f3 (x4 + 5).toNatClampNeg)), some (.ref a3), none] [] w nc ns (fun r w1 nc1 ns1 => match r with | .inl v => Ev (d + 1) m_La_law 239 [some (.ref a0), some (.ref a1), o2, some (.ref a3), some (.int x4), o5, o6] (v.toList ++ st) w1 nc1 ns1 Q | .inr x => Q (.inr x) w1 nc1 ns1)) : Ev (d + 1) m_La_law 204 [some (.ref a0), some (.ref a1), o2, some (.ref a3), some (.int x4), o5, o6] st w nc ns Q := by
  refine ev_aload_n d_La_law_204 rfl rfl ?_
  refine ev_aload_n d_La_law_205 rfl rfl ?_
  refine ev_iload d_La_law_206 rfl ?_
  refine ev_iconst 1 d_La_law_208 (by decide) ?_
  refine ev_iadd d_La_law_209 ?_
  refine ev_iald d_La_law_210 ha1 hi4 ?_
  refine ev_aload_n d_La_law_211 rfl rfl ?_
  refine ev_iload d_La_law_212 rfl ?_
  refine ev_iconst 2 d_La_law_214 (by decide) ?_
  refine ev_iadd d_La_law_215 ?_
  refine ev_iald d_La_law_216 ha1 hi5 ?_
  refine ev_aload_n d_La_law_217 rfl rfl ?_
  refine ev_iload d_La_law_218 rfl ?_
  refine ev_iconst 3 d_La_law_220 (by decide) ?_
  refine ev_iadd d_La_law_221 ?_
  refine ev_iald d_La_law_222 ha1 hi6 ?_
  refine ev_aload_n d_La_law_223 rfl rfl ?_
  refine ev_iload d_La_law_224 rfl ?_
  refine ev_iconst 4 d_La_law_226 (by decide) ?_
  refine ev_iadd d_La_law_227 ?_
  refine ev_iald d_La_law_228 ha1 hi7 ?_
  refine ev_aload_n d_La_law_229 rfl rfl ?_
  refine ev_iload d_La_law_230 rfl ?_
  refine ev_iconst 5 d_La_law_232 (by decide) ?_
  refine ev_iadd d_La_law_233 ?_
  refine ev_iald d_La_law_234 ha1 hi8 ?_
  refine ev_aload_n d_La_law_235 rfl rfl ?_
  exact ev_call (M' := m_La_samples) (As := [.ref a1, .int (f3 (x4 + 1).toNatClampNeg), .int (f3 (x4 + 2).toNatClampNeg), .int (f3 (x4 + 3).toNatClampNeg), .int (f3 (x4 + 4).toNatClampNeg), .int (f3 (x4 + 5).toNatClampNeg), .ref a3]) (st := st) d_La_law_236 i_La_samples (fun h => absurd h (by decide +kernel)) cw_La_90 rfl rfl trivial rfl (Nat.le_of_ble_eq_true rfl) h8 k
theorem t_La_law_239 {d : Nat} {st : List Value} {a0 : Nat} {o1 : Option Value} {a2 : Nat} {o3 : Option Value} {x4 : Int32} {o5 : Option Value} {o6 : Option Value} {y0 : Int32} {n3 : Nat} {f4 : Nat → Int32} {fsb : List Value} {w : qk_W} {nc ns : Nat} {Q : Option Value ⊕ Nat → qk_W → Nat → Nat → Prop}  (hc1 : qk_c2 [some (.ref a0), o1, some (.ref a2), o3, some (.int x4), o5, o6] 5 = true) (ha2 : wi w a0 n3 f4) (hi5 : vp_in (x4 + 1) n3) (hi6 : vp_in (x4 + 2) n3) (hi7 : vp_in (x4 + 3) n3) (hi8 : vp_in (x4 + 4) n3) (hi9 : vp_in (x4 + 5) n3) (hb : wo w a2 11 fsb) (h8 : (st.map fun v => Value.category v).sum ≤ 8) (k : Ev d m_Mo_samples 0 [some (.ref a2), some (.int (f4 (x4 + 1).toNatClampNeg)), some (.int (f4 (x4 + 2).toNatClampNeg)), some (.int (f4 (x4 + 3).toNatClampNeg)), some (.int (f4 (x4 + 4).toNatClampNeg)), some (.int (f4 (x4 + 5).toNatClampNeg)), none, none, none, none] [] w nc ns (fun r w1 nc1 ns1 => match r with | .inl v => Ev (d + 1) m_La_law 275 [some (.ref a0), o1, some (.ref a2), o3, some (.int x4), some (.int y0), o6] (v.toList ++ st) w1 nc1 ns1 Q | .inr x => Q (.inr x) w1 nc1 ns1)) : Ev (d + 1) m_La_law 239 [some (.ref a0), o1, some (.ref a2), o3, some (.int x4), o5, o6] (.int y0 :: st) w nc ns Q := by
  refine ev_istore d_La_law_239 (by decide) hc1 ?_
  refine ev_aload_n d_La_law_241 rfl rfl ?_
  refine ev_aload_n d_La_law_242 rfl rfl ?_
  refine ev_iload d_La_law_243 rfl ?_
  refine ev_iconst 1 d_La_law_245 (by decide) ?_
  refine ev_iadd d_La_law_246 ?_
  refine ev_iald d_La_law_247 ha2 hi5 ?_
  refine ev_aload_n d_La_law_248 rfl rfl ?_
  refine ev_iload d_La_law_249 rfl ?_
  refine ev_iconst 2 d_La_law_251 (by decide) ?_
  refine ev_iadd d_La_law_252 ?_
  refine ev_iald d_La_law_253 ha2 hi6 ?_
  refine ev_aload_n d_La_law_254 rfl rfl ?_
  refine ev_iload d_La_law_255 rfl ?_
  refine ev_iconst 3 d_La_law_257 (by decide) ?_
  refine ev_iadd d_La_law_258 ?_
  refine ev_iald d_La_law_259 ha2 hi7 ?_
  refine ev_aload_n d_La_law_260 rfl rfl ?_
  refine ev_iload d_La_law_261 rfl ?_
  refine ev_iconst 4 d_La_law_263 (by decide) ?_
  refine ev_iadd d_La_law_264 ?_
  refine ev_iald d_La_law_265 ha2 hi8 ?_
  refine ev_aload_n d_La_law_266 rfl rfl ?_
  refine ev_iload d_La_law_267 rfl ?_
  refine ev_iconst 5 d_La_law_269 (by decide) ?_
  refine ev_iadd d_La_law_270 ?_
  refine ev_iald d_La_law_271 ha2 hi9 ?_
  exact ev_call (M' := m_Mo_samples) (As := [.ref a2, .int (f4 (x4 + 1).toNatClampNeg), .int (f4 (x4 + 2).toNatClampNeg), .int (f4 (x4 + 3).toNatClampNeg), .int (f4 (x4 + 4).toNatClampNeg), .int (f4 (x4 + 5).toNatClampNeg)]) (st := st) d_La_law_272 i_Mo_samples (fun h => absurd h (by decide +kernel)) cw_La_93 rfl rfl ⟨hb.1, 11, _, _, hb.2, rfl, rfl⟩ rfl (Nat.le_of_ble_eq_true rfl) h8 k
theorem t_La_law_275 {d : Nat} {st : List Value} {o0 : Option Value} {o1 : Option Value} {a2 : Nat} {o3 : Option Value} {o4 : Option Value} {o5 : Option Value} {o6 : Option Value} {y0 : Int32} {fsb : List Value} {w : qk_W} {nc ns : Nat} {Q : Option Value ⊕ Nat → qk_W → Nat → Nat → Prop}  (hc1 : qk_c2 [o0, o1, some (.ref a2), o3, o4, o5, o6] 6 = true) (hb : wo w a2 11 fsb) (h8 : (st.map fun v => Value.category v).sum ≤ 8) (k : Ev d m_Mo_thrown 0 [some (.ref a2)] [] w nc ns (fun r w1 nc1 ns1 => match r with | .inl v => Ev (d + 1) m_La_law 281 [o0, o1, some (.ref a2), o3, o4, o5, some (.int y0)] (v.toList ++ st) w1 nc1 ns1 Q | .inr x => Q (.inr x) w1 nc1 ns1)) : Ev (d + 1) m_La_law 275 [o0, o1, some (.ref a2), o3, o4, o5, o6] (.int y0 :: st) w nc ns Q := by
  refine ev_istore d_La_law_275 (by decide) hc1 ?_
  refine ev_aload_n d_La_law_277 rfl rfl ?_
  exact ev_call (M' := m_Mo_thrown) (As := [.ref a2]) (st := st) d_La_law_278 i_Mo_thrown (fun h => absurd h (by decide +kernel)) cw_La_86 rfl rfl ⟨hb.1, 11, _, _, hb.2, rfl, rfl⟩ rfl (Nat.le_of_ble_eq_true rfl) h8 k
theorem t_La_law_281 {d : Nat} {st : List Value} {o0 : Option Value} {o1 : Option Value} {o2 : Option Value} {o3 : Option Value} {o4 : Option Value} {x5 : Int32} {o6 : Option Value} {y0 : Int32} {w : qk_W} {nc ns : Nat} {Q : Option Value ⊕ Nat → qk_W → Nat → Nat → Prop}   (kt : y0 = x5 → Ev d m_La_law 288 [o0, o1, o2, o3, o4, some (.int x5), o6] st w nc ns Q) (kf : ¬ (y0 = x5) → Ev d m_La_law 286 [o0, o1, o2, o3, o4, some (.int x5), o6] st w nc ns Q) : Ev d m_La_law 281 [o0, o1, o2, o3, o4, some (.int x5), o6] (.int y0 :: st) w nc ns Q := by
  refine ev_iload d_La_law_281 rfl ?_
  exact ev_icmp_eq 288 d_La_law_283 (by decide) kt kf
theorem t_La_law_286 {d : Nat} {o0 : Option Value} {o1 : Option Value} {o2 : Option Value} {o3 : Option Value} {o4 : Option Value} {o5 : Option Value} {o6 : Option Value} {w : qk_W} {nc ns : Nat} {Q : Option Value ⊕ Nat → qk_W → Nat → Nat → Prop}   (hq : Q (.inl (some (.int 0))) w nc ns) : Ev d m_La_law 286 [o0, o1, o2, o3, o4, o5, o6] [] w nc ns Q := by
  refine ev_iconst 0 d_La_law_286 (by decide) ?_
  exact ev_iret d_La_law_287 rfl rfl hq
theorem t_La_law_288 {d : Nat} {st : List Value} {o0 : Option Value} {o1 : Option Value} {o2 : Option Value} {o3 : Option Value} {o4 : Option Value} {x5 : Int32} {o6 : Option Value} {w : qk_W} {nc ns : Nat} {Q : Option Value ⊕ Nat → qk_W → Nat → Nat → Prop}   (kt : ¬ x5 = 0 → Ev d m_La_law 305 [o0, o1, o2, o3, o4, some (.int x5), o6] st w nc ns Q) (kf : x5 = 0 → Ev d m_La_law 293 [o0, o1, o2, o3, o4, some (.int x5), o6] st w nc ns Q) : Ev d m_La_law 288 [o0, o1, o2, o3, o4, some (.int x5), o6] st w nc ns Q := by
  refine ev_iload d_La_law_288 rfl ?_
  exact ev_if_ne 305 d_La_law_290 (by decide) kt kf
theorem t_La_law_293 {d : Nat} {st : List Value} {o0 : Option Value} {o1 : Option Value} {o2 : Option Value} {a3 : Nat} {o4 : Option Value} {o5 : Option Value} {x6 : Int32} {n2 : Nat} {f3 : Nat → Int64} {w : qk_W} {nc ns : Nat} {Q : Option Value ⊕ Nat → qk_W → Nat → Nat → Prop}  (ha1 : wl w a3 n2 f3) (hi4 : vp_in 0 n2) (kt : (lg_cmp (f3 (0 : Int32).toNatClampNeg) (Int32.toInt64 x6)) = 0 → Ev d m_La_law 305 [o0, o1, o2, some (.ref a3), o4, o5, some (.int x6)] st w nc ns Q) (kf : ¬ ((lg_cmp (f3 (0 : Int32).toNatClampNeg) (Int32.toInt64 x6)) = 0) → Ev d m_La_law 303 [o0, o1, o2, some (.ref a3), o4, o5, some (.int x6)] st w nc ns Q) : Ev d m_La_law 293 [o0, o1, o2, some (.ref a3), o4, o5, some (.int x6)] st w nc ns Q := by
  refine ev_aload_n d_La_law_293 rfl rfl ?_
  refine ev_iconst 0 d_La_law_294 (by decide) ?_
  refine ev_lald d_La_law_295 ha1.1 ha1.2 hi4 ?_
  refine ev_iload d_La_law_296 rfl ?_
  refine ev_i2l d_La_law_298 ?_
  refine ev_lcmp d_La_law_299 ?_
  exact ev_if_eq 305 d_La_law_300 (by decide) kt kf
theorem t_La_law_303 {d : Nat} {o0 : Option Value} {o1 : Option Value} {o2 : Option Value} {o3 : Option Value} {o4 : Option Value} {o5 : Option Value} {o6 : Option Value} {w : qk_W} {nc ns : Nat} {Q : Option Value ⊕ Nat → qk_W → Nat → Nat → Prop}   (hq : Q (.inl (some (.int 0))) w nc ns) : Ev d m_La_law 303 [o0, o1, o2, o3, o4, o5, o6] [] w nc ns Q := by
  refine ev_iconst 0 d_La_law_303 (by decide) ?_
  exact ev_iret d_La_law_304 rfl rfl hq
theorem t_La_law_305 {d : Nat} {st : List Value} {o0 : Option Value} {o1 : Option Value} {o2 : Option Value} {o3 : Option Value} {x4 : Int32} {o5 : Option Value} {o6 : Option Value} {w : qk_W} {nc ns : Nat} {Q : Option Value ⊕ Nat → qk_W → Nat → Nat → Prop}  (hc1 : qk_c2 [o0, o1, o2, o3, some (.int x4), o5, o6] 4 = true) (k : Ev d m_La_law 23 [o0, o1, o2, o3, some (.int (x4 + 6)), o5, o6] st w nc ns Q) : Ev d m_La_law 305 [o0, o1, o2, o3, some (.int x4), o5, o6] st w nc ns Q := by
  refine ev_goto 1281 d_La_law_305 (by decide) ?_
  refine ev_iinc 6 d_La_law_1281 (by decide) rfl (by decide) hc1 ?_
  refine ev_goto 23 d_La_law_1284 (by decide) ?_
  exact k
theorem t_La_law_308 {d : Nat} {st : List Value} {a0 : Nat} {a1 : Nat} {o2 : Option Value} {o3 : Option Value} {x4 : Int32} {o5 : Option Value} {o6 : Option Value} {n2 : Nat} {f3 : Nat → Int32} {w : qk_W} {nc ns : Nat} {Q : Option Value ⊕ Nat → qk_W → Nat → Nat → Prop}  (ha1 : wi w a0 n2 f3) (hi4 : vp_in (x4 + 1) n2) (h8 : (st.map fun v => Value.category v).sum ≤ 8) (k : Ev d m_La_quality 0 [some (.ref a1), some (.int (f3 (x4 + 1).toNatClampNeg)), none] [] w nc ns (fun r w1 nc1 ns1 => match r with | .inl v => Ev (d + 1) m_La_law 318 [some (.ref a0), some (.ref a1), o2, o3, some (.int x4), o5, o6] (v.toList ++ st) w1 nc1 ns1 Q | .inr x => Q (.inr x) w1 nc1 ns1)) : Ev (d + 1) m_La_law 308 [some (.ref a0), some (.ref a1), o2, o3, some (.int x4), o5, o6] st w nc ns Q := by
  refine ev_aload_n d_La_law_308 rfl rfl ?_
  refine ev_aload_n d_La_law_309 rfl rfl ?_
  refine ev_iload d_La_law_310 rfl ?_
  refine ev_iconst 1 d_La_law_312 (by decide) ?_
  refine ev_iadd d_La_law_313 ?_
  refine ev_iald d_La_law_314 ha1 hi4 ?_
  exact ev_call (M' := m_La_quality) (As := [.ref a1, .int (f3 (x4 + 1).toNatClampNeg)]) (st := st) d_La_law_315 i_La_quality (fun h => absurd h (by decide +kernel)) cw_La_94 rfl rfl trivial rfl (Nat.le_of_ble_eq_true rfl) h8 k
theorem t_La_law_318 {d : Nat} {st : List Value} {a0 : Nat} {o1 : Option Value} {a2 : Nat} {o3 : Option Value} {x4 : Int32} {o5 : Option Value} {o6 : Option Value} {y0 : Int32} {n3 : Nat} {f4 : Nat → Int32} {fsb : List Value} {w : qk_W} {nc ns : Nat} {Q : Option Value ⊕ Nat → qk_W → Nat → Nat → Prop}  (hc1 : qk_c2 [some (.ref a0), o1, some (.ref a2), o3, some (.int x4), o5, o6] 5 = true) (ha2 : wi w a0 n3 f4) (hi5 : vp_in (x4 + 1) n3) (hb : wo w a2 11 fsb) (h8 : (st.map fun v => Value.category v).sum ≤ 8) (k : Ev d m_Mo_quality 0 [some (.ref a2), some (.int (f4 (x4 + 1).toNatClampNeg))] [] w nc ns (fun r w1 nc1 ns1 => match r with | .inl v => Ev (d + 1) m_La_law 330 [some (.ref a0), o1, some (.ref a2), o3, some (.int x4), some (.int y0), o6] (v.toList ++ st) w1 nc1 ns1 Q | .inr x => Q (.inr x) w1 nc1 ns1)) : Ev (d + 1) m_La_law 318 [some (.ref a0), o1, some (.ref a2), o3, some (.int x4), o5, o6] (.int y0 :: st) w nc ns Q := by
  refine ev_istore d_La_law_318 (by decide) hc1 ?_
  refine ev_aload_n d_La_law_320 rfl rfl ?_
  refine ev_aload_n d_La_law_321 rfl rfl ?_
  refine ev_iload d_La_law_322 rfl ?_
  refine ev_iconst 1 d_La_law_324 (by decide) ?_
  refine ev_iadd d_La_law_325 ?_
  refine ev_iald d_La_law_326 ha2 hi5 ?_
  exact ev_call (M' := m_Mo_quality) (As := [.ref a2, .int (f4 (x4 + 1).toNatClampNeg)]) (st := st) d_La_law_327 i_Mo_quality (fun h => absurd h (by decide +kernel)) cw_La_97 rfl rfl ⟨hb.1, 11, _, _, hb.2, rfl, rfl⟩ rfl (Nat.le_of_ble_eq_true rfl) h8 k
theorem t_La_law_330 {d : Nat} {st : List Value} {o0 : Option Value} {o1 : Option Value} {a2 : Nat} {o3 : Option Value} {o4 : Option Value} {o5 : Option Value} {o6 : Option Value} {fsb : List Value} {w : qk_W} {nc ns : Nat} {Q : Option Value ⊕ Nat → qk_W → Nat → Nat → Prop}  (hb : wo w a2 11 fsb) (h8 : (st.map fun v => Value.category v).sum ≤ 8) (k : Ev d m_Mo_thrown 0 [some (.ref a2)] [] w nc ns (fun r w1 nc1 ns1 => match r with | .inl v => Ev (d + 1) m_La_law 334 [o0, o1, some (.ref a2), o3, o4, o5, o6] (v.toList ++ st) w1 nc1 ns1 Q | .inr x => Q (.inr x) w1 nc1 ns1)) : Ev (d + 1) m_La_law 330 [o0, o1, some (.ref a2), o3, o4, o5, o6] st w nc ns Q := by
  refine ev_aload_n d_La_law_330 rfl rfl ?_
  exact ev_call (M' := m_Mo_thrown) (As := [.ref a2]) (st := st) d_La_law_331 i_Mo_thrown (fun h => absurd h (by decide +kernel)) cw_La_86 rfl rfl ⟨hb.1, 11, _, _, hb.2, rfl, rfl⟩ rfl (Nat.le_of_ble_eq_true rfl) h8 k
theorem t_La_law_334 {d : Nat} {st : List Value} {o0 : Option Value} {o1 : Option Value} {o2 : Option Value} {o3 : Option Value} {o4 : Option Value} {x5 : Int32} {o6 : Option Value} {y0 : Int32} {w : qk_W} {nc ns : Nat} {Q : Option Value ⊕ Nat → qk_W → Nat → Nat → Prop}   (kt : y0 = x5 → Ev d m_La_law 341 [o0, o1, o2, o3, o4, some (.int x5), o6] st w nc ns Q) (kf : ¬ (y0 = x5) → Ev d m_La_law 339 [o0, o1, o2, o3, o4, some (.int x5), o6] st w nc ns Q) : Ev d m_La_law 334 [o0, o1, o2, o3, o4, some (.int x5), o6] (.int y0 :: st) w nc ns Q := by
  refine ev_iload d_La_law_334 rfl ?_
  exact ev_icmp_eq 341 d_La_law_336 (by decide) kt kf
theorem t_La_law_339 {d : Nat} {o0 : Option Value} {o1 : Option Value} {o2 : Option Value} {o3 : Option Value} {o4 : Option Value} {o5 : Option Value} {o6 : Option Value} {w : qk_W} {nc ns : Nat} {Q : Option Value ⊕ Nat → qk_W → Nat → Nat → Prop}   (hq : Q (.inl (some (.int 0))) w nc ns) : Ev d m_La_law 339 [o0, o1, o2, o3, o4, o5, o6] [] w nc ns Q := by
  refine ev_iconst 0 d_La_law_339 (by decide) ?_
  exact ev_iret d_La_law_340 rfl rfl hq
theorem t_La_law_341 {d : Nat} {st : List Value} {o0 : Option Value} {o1 : Option Value} {o2 : Option Value} {o3 : Option Value} {x4 : Int32} {o5 : Option Value} {o6 : Option Value} {w : qk_W} {nc ns : Nat} {Q : Option Value ⊕ Nat → qk_W → Nat → Nat → Prop}  (hc1 : qk_c2 [o0, o1, o2, o3, some (.int x4), o5, o6] 4 = true) (k : Ev d m_La_law 23 [o0, o1, o2, o3, some (.int (x4 + 6)), o5, o6] st w nc ns Q) : Ev d m_La_law 341 [o0, o1, o2, o3, some (.int x4), o5, o6] st w nc ns Q := by
  refine ev_goto 1281 d_La_law_341 (by decide) ?_
  refine ev_iinc 6 d_La_law_1281 (by decide) rfl (by decide) hc1 ?_
  refine ev_goto 23 d_La_law_1284 (by decide) ?_
  exact k
theorem t_La_law_344 {d : Nat} {st : List Value} {a0 : Nat} {a1 : Nat} {o2 : Option Value} {a3 : Nat} {x4 : Int32} {o5 : Option Value} {o6 : Option Value} {n2 : Nat} {f3 : Nat → Int32} {w : qk_W} {nc ns : Nat} {Q : Option Value ⊕ Nat → qk_W → Nat → Nat → Prop}  (ha1 : wi w a0 n2 f3) (hi4 : vp_in (x4 + 1) n2) (h8 : (st.map fun v => Value.category v).sum ≤ 8) (k : Ev d m_La_flush 0 [some (.ref a1), some (.int (f3 (x4 + 1).toNatClampNeg)), some (.ref a3), none] [] w nc ns (fun r w1 nc1 ns1 => match r with | .inl v => Ev (d + 1) m_La_law 355 [some (.ref a0), some (.ref a1), o2, some (.ref a3), some (.int x4), o5, o6] (v.toList ++ st) w1 nc1 ns1 Q | .inr x => Q (.inr x) w1 nc1 ns1)) : Ev (d + 1) m_La_law 344 [some (.ref a0), some (.ref a1), o2, some (.ref a3), some (.int x4), o5, o6] st w nc ns Q := by
  refine ev_aload_n d_La_law_344 rfl rfl ?_
  refine ev_aload_n d_La_law_345 rfl rfl ?_
  refine ev_iload d_La_law_346 rfl ?_
  refine ev_iconst 1 d_La_law_348 (by decide) ?_
  refine ev_iadd d_La_law_349 ?_
  refine ev_iald d_La_law_350 ha1 hi4 ?_
  refine ev_aload_n d_La_law_351 rfl rfl ?_
  exact ev_call (M' := m_La_flush) (As := [.ref a1, .int (f3 (x4 + 1).toNatClampNeg), .ref a3]) (st := st) d_La_law_352 i_La_flush (fun h => absurd h (by decide +kernel)) cw_La_98 rfl rfl trivial rfl (Nat.le_of_ble_eq_true rfl) h8 k
theorem t_La_law_355 {d : Nat} {st : List Value} {a0 : Nat} {o1 : Option Value} {a2 : Nat} {o3 : Option Value} {x4 : Int32} {o5 : Option Value} {o6 : Option Value} {y0 : Int32} {n3 : Nat} {f4 : Nat → Int32} {fsb : List Value} {w : qk_W} {nc ns : Nat} {Q : Option Value ⊕ Nat → qk_W → Nat → Nat → Prop}  (hc1 : qk_c2 [some (.ref a0), o1, some (.ref a2), o3, some (.int x4), o5, o6] 5 = true) (ha2 : wi w a0 n3 f4) (hi5 : vp_in (x4 + 1) n3) (hb : wo w a2 11 fsb) (h8 : (st.map fun v => Value.category v).sum ≤ 8) (k : Ev d m_Mo_flush 0 [some (.ref a2), some (.int (f4 (x4 + 1).toNatClampNeg)), none] [] w nc ns (fun r w1 nc1 ns1 => match r with | .inl v => Ev (d + 1) m_La_law 367 [some (.ref a0), o1, some (.ref a2), o3, some (.int x4), some (.int y0), o6] (v.toList ++ st) w1 nc1 ns1 Q | .inr x => Q (.inr x) w1 nc1 ns1)) : Ev (d + 1) m_La_law 355 [some (.ref a0), o1, some (.ref a2), o3, some (.int x4), o5, o6] (.int y0 :: st) w nc ns Q := by
  refine ev_istore d_La_law_355 (by decide) hc1 ?_
  refine ev_aload_n d_La_law_357 rfl rfl ?_
  refine ev_aload_n d_La_law_358 rfl rfl ?_
  refine ev_iload d_La_law_359 rfl ?_
  refine ev_iconst 1 d_La_law_361 (by decide) ?_
  refine ev_iadd d_La_law_362 ?_
  refine ev_iald d_La_law_363 ha2 hi5 ?_
  exact ev_call (M' := m_Mo_flush) (As := [.ref a2, .int (f4 (x4 + 1).toNatClampNeg)]) (st := st) d_La_law_364 i_Mo_flush (fun h => absurd h (by decide +kernel)) cw_La_101 rfl rfl ⟨hb.1, 11, _, _, hb.2, rfl, rfl⟩ rfl (Nat.le_of_ble_eq_true rfl) h8 k
theorem t_La_law_367 {d : Nat} {st : List Value} {o0 : Option Value} {o1 : Option Value} {a2 : Nat} {o3 : Option Value} {o4 : Option Value} {o5 : Option Value} {o6 : Option Value} {y0 : Int32} {fsb : List Value} {w : qk_W} {nc ns : Nat} {Q : Option Value ⊕ Nat → qk_W → Nat → Nat → Prop}  (hc1 : qk_c2 [o0, o1, some (.ref a2), o3, o4, o5, o6] 6 = true) (hb : wo w a2 11 fsb) (h8 : (st.map fun v => Value.category v).sum ≤ 8) (k : Ev d m_Mo_thrown 0 [some (.ref a2)] [] w nc ns (fun r w1 nc1 ns1 => match r with | .inl v => Ev (d + 1) m_La_law 373 [o0, o1, some (.ref a2), o3, o4, o5, some (.int y0)] (v.toList ++ st) w1 nc1 ns1 Q | .inr x => Q (.inr x) w1 nc1 ns1)) : Ev (d + 1) m_La_law 367 [o0, o1, some (.ref a2), o3, o4, o5, o6] (.int y0 :: st) w nc ns Q := by
  refine ev_istore d_La_law_367 (by decide) hc1 ?_
  refine ev_aload_n d_La_law_369 rfl rfl ?_
  exact ev_call (M' := m_Mo_thrown) (As := [.ref a2]) (st := st) d_La_law_370 i_Mo_thrown (fun h => absurd h (by decide +kernel)) cw_La_86 rfl rfl ⟨hb.1, 11, _, _, hb.2, rfl, rfl⟩ rfl (Nat.le_of_ble_eq_true rfl) h8 k
theorem t_La_law_373 {d : Nat} {st : List Value} {o0 : Option Value} {o1 : Option Value} {o2 : Option Value} {o3 : Option Value} {o4 : Option Value} {x5 : Int32} {o6 : Option Value} {y0 : Int32} {w : qk_W} {nc ns : Nat} {Q : Option Value ⊕ Nat → qk_W → Nat → Nat → Prop}   (kt : y0 = x5 → Ev d m_La_law 380 [o0, o1, o2, o3, o4, some (.int x5), o6] st w nc ns Q) (kf : ¬ (y0 = x5) → Ev d m_La_law 378 [o0, o1, o2, o3, o4, some (.int x5), o6] st w nc ns Q) : Ev d m_La_law 373 [o0, o1, o2, o3, o4, some (.int x5), o6] (.int y0 :: st) w nc ns Q := by
  refine ev_iload d_La_law_373 rfl ?_
  exact ev_icmp_eq 380 d_La_law_375 (by decide) kt kf
theorem t_La_law_378 {d : Nat} {o0 : Option Value} {o1 : Option Value} {o2 : Option Value} {o3 : Option Value} {o4 : Option Value} {o5 : Option Value} {o6 : Option Value} {w : qk_W} {nc ns : Nat} {Q : Option Value ⊕ Nat → qk_W → Nat → Nat → Prop}   (hq : Q (.inl (some (.int 0))) w nc ns) : Ev d m_La_law 378 [o0, o1, o2, o3, o4, o5, o6] [] w nc ns Q := by
  refine ev_iconst 0 d_La_law_378 (by decide) ?_
  exact ev_iret d_La_law_379 rfl rfl hq
theorem t_La_law_380 {d : Nat} {st : List Value} {o0 : Option Value} {o1 : Option Value} {o2 : Option Value} {o3 : Option Value} {o4 : Option Value} {x5 : Int32} {o6 : Option Value} {w : qk_W} {nc ns : Nat} {Q : Option Value ⊕ Nat → qk_W → Nat → Nat → Prop}   (kt : ¬ x5 = 0 → Ev d m_La_law 397 [o0, o1, o2, o3, o4, some (.int x5), o6] st w nc ns Q) (kf : x5 = 0 → Ev d m_La_law 385 [o0, o1, o2, o3, o4, some (.int x5), o6] st w nc ns Q) : Ev d m_La_law 380 [o0, o1, o2, o3, o4, some (.int x5), o6] st w nc ns Q := by
  refine ev_iload d_La_law_380 rfl ?_
  exact ev_if_ne 397 d_La_law_382 (by decide) kt kf
theorem t_La_law_385 {d : Nat} {st : List Value} {o0 : Option Value} {o1 : Option Value} {o2 : Option Value} {a3 : Nat} {o4 : Option Value} {o5 : Option Value} {x6 : Int32} {n2 : Nat} {f3 : Nat → Int64} {w : qk_W} {nc ns : Nat} {Q : Option Value ⊕ Nat → qk_W → Nat → Nat → Prop}  (ha1 : wl w a3 n2 f3) (hi4 : vp_in 0 n2) (kt : (lg_cmp (f3 (0 : Int32).toNatClampNeg) (Int32.toInt64 x6)) = 0 → Ev d m_La_law 397 [o0, o1, o2, some (.ref a3), o4, o5, some (.int x6)] st w nc ns Q) (kf : ¬ ((lg_cmp (f3 (0 : Int32).toNatClampNeg) (Int32.toInt64 x6)) = 0) → Ev d m_La_law 395 [o0, o1, o2, some (.ref a3), o4, o5, some (.int x6)] st w nc ns Q) : Ev d m_La_law 385 [o0, o1, o2, some (.ref a3), o4, o5, some (.int x6)] st w nc ns Q := by
  refine ev_aload_n d_La_law_385 rfl rfl ?_
  refine ev_iconst 0 d_La_law_386 (by decide) ?_
  refine ev_lald d_La_law_387 ha1.1 ha1.2 hi4 ?_
  refine ev_iload d_La_law_388 rfl ?_
  refine ev_i2l d_La_law_390 ?_
  refine ev_lcmp d_La_law_391 ?_
  exact ev_if_eq 397 d_La_law_392 (by decide) kt kf
theorem t_La_law_395 {d : Nat} {o0 : Option Value} {o1 : Option Value} {o2 : Option Value} {o3 : Option Value} {o4 : Option Value} {o5 : Option Value} {o6 : Option Value} {w : qk_W} {nc ns : Nat} {Q : Option Value ⊕ Nat → qk_W → Nat → Nat → Prop}   (hq : Q (.inl (some (.int 0))) w nc ns) : Ev d m_La_law 395 [o0, o1, o2, o3, o4, o5, o6] [] w nc ns Q := by
  refine ev_iconst 0 d_La_law_395 (by decide) ?_
  exact ev_iret d_La_law_396 rfl rfl hq
theorem t_La_law_397 {d : Nat} {st : List Value} {o0 : Option Value} {o1 : Option Value} {o2 : Option Value} {o3 : Option Value} {x4 : Int32} {o5 : Option Value} {o6 : Option Value} {w : qk_W} {nc ns : Nat} {Q : Option Value ⊕ Nat → qk_W → Nat → Nat → Prop}  (hc1 : qk_c2 [o0, o1, o2, o3, some (.int x4), o5, o6] 4 = true) (k : Ev d m_La_law 23 [o0, o1, o2, o3, some (.int (x4 + 6)), o5, o6] st w nc ns Q) : Ev d m_La_law 397 [o0, o1, o2, o3, some (.int x4), o5, o6] st w nc ns Q := by
  refine ev_goto 1281 d_La_law_397 (by decide) ?_
  refine ev_iinc 6 d_La_law_1281 (by decide) rfl (by decide) hc1 ?_
  refine ev_goto 23 d_La_law_1284 (by decide) ?_
  exact k
theorem t_La_law_400 {d : Nat} {st : List Value} {o0 : Option Value} {a1 : Nat} {o2 : Option Value} {o3 : Option Value} {o4 : Option Value} {o5 : Option Value} {o6 : Option Value} {fsb : List Value} {w : qk_W} {nc ns : Nat} {Q : Option Value ⊕ Nat → qk_W → Nat → Nat → Prop}  (hb : wo w a1 0 fsb) (h8 : (st.map fun v => Value.category v).sum ≤ 8) (k : Ev d m_Q_turn 0 [some (.ref a1)] [] w nc ns (fun r w1 nc1 ns1 => match r with | .inl v => Ev (d + 1) m_La_law 404 [o0, some (.ref a1), o2, o3, o4, o5, o6] (v.toList ++ st) w1 nc1 ns1 Q | .inr x => Q (.inr x) w1 nc1 ns1)) : Ev (d + 1) m_La_law 400 [o0, some (.ref a1), o2, o3, o4, o5, o6] st w nc ns Q := by
  refine ev_aload_n d_La_law_400 rfl rfl ?_
  exact ev_call (M' := m_Q_turn) (As := [.ref a1]) (st := st) d_La_law_401 i_Q_turn (fun h => absurd h (by decide +kernel)) cw_La_102 rfl rfl ⟨hb.1, 0, _, _, hb.2, rfl, rfl⟩ rfl (Nat.le_of_ble_eq_true rfl) h8 k
theorem t_La_law_404 {d : Nat} {st : List Value} {o0 : Option Value} {o1 : Option Value} {a2 : Nat} {o3 : Option Value} {o4 : Option Value} {o5 : Option Value} {o6 : Option Value} {fsb : List Value} {w : qk_W} {nc ns : Nat} {Q : Option Value ⊕ Nat → qk_W → Nat → Nat → Prop}  (hb : wo w a2 11 fsb) (h8 : (st.map fun v => Value.category v).sum ≤ 8) (k : Ev d m_Mo_turn 0 [some (.ref a2), none, none, none, none, none] [] w nc ns (fun r w1 nc1 ns1 => match r with | .inl v => Ev (d + 1) m_La_law 408 [o0, o1, some (.ref a2), o3, o4, o5, o6] (v.toList ++ st) w1 nc1 ns1 Q | .inr x => Q (.inr x) w1 nc1 ns1)) : Ev (d + 1) m_La_law 404 [o0, o1, some (.ref a2), o3, o4, o5, o6] st w nc ns Q := by
  refine ev_aload_n d_La_law_404 rfl rfl ?_
  exact ev_call (M' := m_Mo_turn) (As := [.ref a2]) (st := st) d_La_law_405 i_Mo_turn (fun h => absurd h (by decide +kernel)) cw_La_105 rfl rfl ⟨hb.1, 11, _, _, hb.2, rfl, rfl⟩ rfl (Nat.le_of_ble_eq_true rfl) h8 k
theorem t_La_law_408 {d : Nat} {st : List Value} {o0 : Option Value} {o1 : Option Value} {o2 : Option Value} {o3 : Option Value} {o4 : Option Value} {o5 : Option Value} {o6 : Option Value} {y0 : Int32} {y1 : Int32} {w : qk_W} {nc ns : Nat} {Q : Option Value ⊕ Nat → qk_W → Nat → Nat → Prop}   (kt : y1 = y0 → Ev d m_La_law 1281 [o0, o1, o2, o3, o4, o5, o6] st w nc ns Q) (kf : ¬ (y1 = y0) → Ev d m_La_law 411 [o0, o1, o2, o3, o4, o5, o6] st w nc ns Q) : Ev d m_La_law 408 [o0, o1, o2, o3, o4, o5, o6] (.int y0 :: .int y1 :: st) w nc ns Q := by
  exact ev_icmp_eq 1281 d_La_law_408 (by decide) kt kf
theorem t_La_law_411 {d : Nat} {o0 : Option Value} {o1 : Option Value} {o2 : Option Value} {o3 : Option Value} {o4 : Option Value} {o5 : Option Value} {o6 : Option Value} {w : qk_W} {nc ns : Nat} {Q : Option Value ⊕ Nat → qk_W → Nat → Nat → Prop}   (hq : Q (.inl (some (.int 0))) w nc ns) : Ev d m_La_law 411 [o0, o1, o2, o3, o4, o5, o6] [] w nc ns Q := by
  refine ev_iconst 0 d_La_law_411 (by decide) ?_
  exact ev_iret d_La_law_412 rfl rfl hq
theorem t_La_law_413 {d : Nat} {st : List Value} {o0 : Option Value} {a1 : Nat} {o2 : Option Value} {o3 : Option Value} {o4 : Option Value} {o5 : Option Value} {o6 : Option Value} {fsb : List Value} {w : qk_W} {nc ns : Nat} {Q : Option Value ⊕ Nat → qk_W → Nat → Nat → Prop}  (hb : wo w a1 0 fsb) (h8 : (st.map fun v => Value.category v).sum ≤ 8) (k : Ev d m_Q_ask 0 [some (.ref a1)] [] w nc ns (fun r w1 nc1 ns1 => match r with | .inl v => Ev (d + 1) m_La_law 417 [o0, some (.ref a1), o2, o3, o4, o5, o6] (v.toList ++ st) w1 nc1 ns1 Q | .inr x => Q (.inr x) w1 nc1 ns1)) : Ev (d + 1) m_La_law 413 [o0, some (.ref a1), o2, o3, o4, o5, o6] st w nc ns Q := by
  refine ev_aload_n d_La_law_413 rfl rfl ?_
  exact ev_call (M' := m_Q_ask) (As := [.ref a1]) (st := st) d_La_law_414 i_Q_ask (fun h => absurd h (by decide +kernel)) cw_La_106 rfl rfl ⟨hb.1, 0, _, _, hb.2, rfl, rfl⟩ rfl (Nat.le_of_ble_eq_true rfl) h8 k
theorem t_La_law_417 {d : Nat} {st : List Value} {o0 : Option Value} {o1 : Option Value} {a2 : Nat} {o3 : Option Value} {o4 : Option Value} {o5 : Option Value} {o6 : Option Value} {fsb : List Value} {w : qk_W} {nc ns : Nat} {Q : Option Value ⊕ Nat → qk_W → Nat → Nat → Prop}  (hb : wo w a2 11 fsb) (h8 : (st.map fun v => Value.category v).sum ≤ 8) (k : Ev d m_Mo_ask 0 [some (.ref a2), none, none, none, none] [] w nc ns (fun r w1 nc1 ns1 => match r with | .inl v => Ev (d + 1) m_La_law 421 [o0, o1, some (.ref a2), o3, o4, o5, o6] (v.toList ++ st) w1 nc1 ns1 Q | .inr x => Q (.inr x) w1 nc1 ns1)) : Ev (d + 1) m_La_law 417 [o0, o1, some (.ref a2), o3, o4, o5, o6] st w nc ns Q := by
  refine ev_aload_n d_La_law_417 rfl rfl ?_
  exact ev_call (M' := m_Mo_ask) (As := [.ref a2]) (st := st) d_La_law_418 i_Mo_ask (fun h => absurd h (by decide +kernel)) cw_La_109 rfl rfl ⟨hb.1, 11, _, _, hb.2, rfl, rfl⟩ rfl (Nat.le_of_ble_eq_true rfl) h8 k
theorem t_La_law_421 {d : Nat} {st : List Value} {o0 : Option Value} {o1 : Option Value} {o2 : Option Value} {o3 : Option Value} {o4 : Option Value} {o5 : Option Value} {o6 : Option Value} {y0 : Int32} {y1 : Int32} {w : qk_W} {nc ns : Nat} {Q : Option Value ⊕ Nat → qk_W → Nat → Nat → Prop}   (kt : y1 = y0 → Ev d m_La_law 1281 [o0, o1, o2, o3, o4, o5, o6] st w nc ns Q) (kf : ¬ (y1 = y0) → Ev d m_La_law 424 [o0, o1, o2, o3, o4, o5, o6] st w nc ns Q) : Ev d m_La_law 421 [o0, o1, o2, o3, o4, o5, o6] (.int y0 :: .int y1 :: st) w nc ns Q := by
  exact ev_icmp_eq 1281 d_La_law_421 (by decide) kt kf
theorem t_La_law_424 {d : Nat} {o0 : Option Value} {o1 : Option Value} {o2 : Option Value} {o3 : Option Value} {o4 : Option Value} {o5 : Option Value} {o6 : Option Value} {w : qk_W} {nc ns : Nat} {Q : Option Value ⊕ Nat → qk_W → Nat → Nat → Prop}   (hq : Q (.inl (some (.int 0))) w nc ns) : Ev d m_La_law 424 [o0, o1, o2, o3, o4, o5, o6] [] w nc ns Q := by
  refine ev_iconst 0 d_La_law_424 (by decide) ?_
  exact ev_iret d_La_law_425 rfl rfl hq
theorem t_La_law_426 {d : Nat} {st : List Value} {a0 : Nat} {a1 : Nat} {o2 : Option Value} {a3 : Nat} {x4 : Int32} {o5 : Option Value} {o6 : Option Value} {n2 : Nat} {f3 : Nat → Int32} {w : qk_W} {nc ns : Nat} {Q : Option Value ⊕ Nat → qk_W → Nat → Nat → Prop}  (ha1 : wi w a0 n2 f3) (hi4 : vp_in (x4 + 1) n2) (h8 : (st.map fun v => Value.category v).sum ≤ 8) (k : Ev d m_La_deliver 0 [some (.ref a1), some (.int (f3 (x4 + 1).toNatClampNeg)), some (.ref a3), none] [] w nc ns (fun r w1 nc1 ns1 => match r with | .inl v => Ev (d + 1) m_La_law 437 [some (.ref a0), some (.ref a1), o2, some (.ref a3), some (.int x4), o5, o6] (v.toList ++ st) w1 nc1 ns1 Q | .inr x => Q (.inr x) w1 nc1 ns1)) : Ev (d + 1) m_La_law 426 [some (.ref a0), some (.ref a1), o2, some (.ref a3), some (.int x4), o5, o6] st w nc ns Q := by
  refine ev_aload_n d_La_law_426 rfl rfl ?_
  refine ev_aload_n d_La_law_427 rfl rfl ?_
  refine ev_iload d_La_law_428 rfl ?_
  refine ev_iconst 1 d_La_law_430 (by decide) ?_
  refine ev_iadd d_La_law_431 ?_
  refine ev_iald d_La_law_432 ha1 hi4 ?_
  refine ev_aload_n d_La_law_433 rfl rfl ?_
  exact ev_call (M' := m_La_deliver) (As := [.ref a1, .int (f3 (x4 + 1).toNatClampNeg), .ref a3]) (st := st) d_La_law_434 i_La_deliver (fun h => absurd h (by decide +kernel)) cw_La_110 rfl rfl trivial rfl (Nat.le_of_ble_eq_true rfl) h8 k
theorem t_La_law_437 {d : Nat} {st : List Value} {a0 : Nat} {o1 : Option Value} {a2 : Nat} {o3 : Option Value} {x4 : Int32} {o5 : Option Value} {o6 : Option Value} {y0 : Int32} {n3 : Nat} {f4 : Nat → Int32} {fsb : List Value} {w : qk_W} {nc ns : Nat} {Q : Option Value ⊕ Nat → qk_W → Nat → Nat → Prop}  (hc1 : qk_c2 [some (.ref a0), o1, some (.ref a2), o3, some (.int x4), o5, o6] 5 = true) (ha2 : wi w a0 n3 f4) (hi5 : vp_in (x4 + 1) n3) (hb : wo w a2 11 fsb) (h8 : (st.map fun v => Value.category v).sum ≤ 8) (k : Ev d m_Mo_deliver 0 [some (.ref a2), some (.int (f4 (x4 + 1).toNatClampNeg)), none, none, none] [] w nc ns (fun r w1 nc1 ns1 => match r with | .inl v => Ev (d + 1) m_La_law 449 [some (.ref a0), o1, some (.ref a2), o3, some (.int x4), some (.int y0), o6] (v.toList ++ st) w1 nc1 ns1 Q | .inr x => Q (.inr x) w1 nc1 ns1)) : Ev (d + 1) m_La_law 437 [some (.ref a0), o1, some (.ref a2), o3, some (.int x4), o5, o6] (.int y0 :: st) w nc ns Q := by
  refine ev_istore d_La_law_437 (by decide) hc1 ?_
  refine ev_aload_n d_La_law_439 rfl rfl ?_
  refine ev_aload_n d_La_law_440 rfl rfl ?_
  refine ev_iload d_La_law_441 rfl ?_
  refine ev_iconst 1 d_La_law_443 (by decide) ?_
  refine ev_iadd d_La_law_444 ?_
  refine ev_iald d_La_law_445 ha2 hi5 ?_
  exact ev_call (M' := m_Mo_deliver) (As := [.ref a2, .int (f4 (x4 + 1).toNatClampNeg)]) (st := st) d_La_law_446 i_Mo_deliver (fun h => absurd h (by decide +kernel)) cw_La_112 rfl rfl ⟨hb.1, 11, _, _, hb.2, rfl, rfl⟩ rfl (Nat.le_of_ble_eq_true rfl) h8 k
theorem t_La_law_449 {d : Nat} {st : List Value} {o0 : Option Value} {o1 : Option Value} {a2 : Nat} {o3 : Option Value} {o4 : Option Value} {o5 : Option Value} {o6 : Option Value} {y0 : Int32} {fsb : List Value} {w : qk_W} {nc ns : Nat} {Q : Option Value ⊕ Nat → qk_W → Nat → Nat → Prop}  (hc1 : qk_c2 [o0, o1, some (.ref a2), o3, o4, o5, o6] 6 = true) (hb : wo w a2 11 fsb) (h8 : (st.map fun v => Value.category v).sum ≤ 8) (k : Ev d m_Mo_thrown 0 [some (.ref a2)] [] w nc ns (fun r w1 nc1 ns1 => match r with | .inl v => Ev (d + 1) m_La_law 455 [o0, o1, some (.ref a2), o3, o4, o5, some (.int y0)] (v.toList ++ st) w1 nc1 ns1 Q | .inr x => Q (.inr x) w1 nc1 ns1)) : Ev (d + 1) m_La_law 449 [o0, o1, some (.ref a2), o3, o4, o5, o6] (.int y0 :: st) w nc ns Q := by
  refine ev_istore d_La_law_449 (by decide) hc1 ?_
  refine ev_aload_n d_La_law_451 rfl rfl ?_
  exact ev_call (M' := m_Mo_thrown) (As := [.ref a2]) (st := st) d_La_law_452 i_Mo_thrown (fun h => absurd h (by decide +kernel)) cw_La_86 rfl rfl ⟨hb.1, 11, _, _, hb.2, rfl, rfl⟩ rfl (Nat.le_of_ble_eq_true rfl) h8 k
theorem t_La_law_455 {d : Nat} {st : List Value} {o0 : Option Value} {o1 : Option Value} {o2 : Option Value} {o3 : Option Value} {o4 : Option Value} {x5 : Int32} {o6 : Option Value} {y0 : Int32} {w : qk_W} {nc ns : Nat} {Q : Option Value ⊕ Nat → qk_W → Nat → Nat → Prop}   (kt : y0 = x5 → Ev d m_La_law 462 [o0, o1, o2, o3, o4, some (.int x5), o6] st w nc ns Q) (kf : ¬ (y0 = x5) → Ev d m_La_law 460 [o0, o1, o2, o3, o4, some (.int x5), o6] st w nc ns Q) : Ev d m_La_law 455 [o0, o1, o2, o3, o4, some (.int x5), o6] (.int y0 :: st) w nc ns Q := by
  refine ev_iload d_La_law_455 rfl ?_
  exact ev_icmp_eq 462 d_La_law_457 (by decide) kt kf
theorem t_La_law_460 {d : Nat} {o0 : Option Value} {o1 : Option Value} {o2 : Option Value} {o3 : Option Value} {o4 : Option Value} {o5 : Option Value} {o6 : Option Value} {w : qk_W} {nc ns : Nat} {Q : Option Value ⊕ Nat → qk_W → Nat → Nat → Prop}   (hq : Q (.inl (some (.int 0))) w nc ns) : Ev d m_La_law 460 [o0, o1, o2, o3, o4, o5, o6] [] w nc ns Q := by
  refine ev_iconst 0 d_La_law_460 (by decide) ?_
  exact ev_iret d_La_law_461 rfl rfl hq
theorem t_La_law_462 {d : Nat} {st : List Value} {o0 : Option Value} {o1 : Option Value} {o2 : Option Value} {o3 : Option Value} {o4 : Option Value} {x5 : Int32} {o6 : Option Value} {w : qk_W} {nc ns : Nat} {Q : Option Value ⊕ Nat → qk_W → Nat → Nat → Prop}   (kt : ¬ x5 = 0 → Ev d m_La_law 479 [o0, o1, o2, o3, o4, some (.int x5), o6] st w nc ns Q) (kf : x5 = 0 → Ev d m_La_law 467 [o0, o1, o2, o3, o4, some (.int x5), o6] st w nc ns Q) : Ev d m_La_law 462 [o0, o1, o2, o3, o4, some (.int x5), o6] st w nc ns Q := by
  refine ev_iload d_La_law_462 rfl ?_
  exact ev_if_ne 479 d_La_law_464 (by decide) kt kf
theorem t_La_law_467 {d : Nat} {st : List Value} {o0 : Option Value} {o1 : Option Value} {o2 : Option Value} {a3 : Nat} {o4 : Option Value} {o5 : Option Value} {x6 : Int32} {n2 : Nat} {f3 : Nat → Int64} {w : qk_W} {nc ns : Nat} {Q : Option Value ⊕ Nat → qk_W → Nat → Nat → Prop}  (ha1 : wl w a3 n2 f3) (hi4 : vp_in 0 n2) (kt : (lg_cmp (f3 (0 : Int32).toNatClampNeg) (Int32.toInt64 x6)) = 0 → Ev d m_La_law 479 [o0, o1, o2, some (.ref a3), o4, o5, some (.int x6)] st w nc ns Q) (kf : ¬ ((lg_cmp (f3 (0 : Int32).toNatClampNeg) (Int32.toInt64 x6)) = 0) → Ev d m_La_law 477 [o0, o1, o2, some (.ref a3), o4, o5, some (.int x6)] st w nc ns Q) : Ev d m_La_law 467 [o0, o1, o2, some (.ref a3), o4, o5, some (.int x6)] st w nc ns Q := by
  refine ev_aload_n d_La_law_467 rfl rfl ?_
  refine ev_iconst 0 d_La_law_468 (by decide) ?_
  refine ev_lald d_La_law_469 ha1.1 ha1.2 hi4 ?_
  refine ev_iload d_La_law_470 rfl ?_
  refine ev_i2l d_La_law_472 ?_
  refine ev_lcmp d_La_law_473 ?_
  exact ev_if_eq 479 d_La_law_474 (by decide) kt kf
theorem t_La_law_477 {d : Nat} {o0 : Option Value} {o1 : Option Value} {o2 : Option Value} {o3 : Option Value} {o4 : Option Value} {o5 : Option Value} {o6 : Option Value} {w : qk_W} {nc ns : Nat} {Q : Option Value ⊕ Nat → qk_W → Nat → Nat → Prop}   (hq : Q (.inl (some (.int 0))) w nc ns) : Ev d m_La_law 477 [o0, o1, o2, o3, o4, o5, o6] [] w nc ns Q := by
  refine ev_iconst 0 d_La_law_477 (by decide) ?_
  exact ev_iret d_La_law_478 rfl rfl hq
theorem t_La_law_479 {d : Nat} {st : List Value} {o0 : Option Value} {o1 : Option Value} {o2 : Option Value} {o3 : Option Value} {x4 : Int32} {o5 : Option Value} {o6 : Option Value} {w : qk_W} {nc ns : Nat} {Q : Option Value ⊕ Nat → qk_W → Nat → Nat → Prop}  (hc1 : qk_c2 [o0, o1, o2, o3, some (.int x4), o5, o6] 4 = true) (k : Ev d m_La_law 23 [o0, o1, o2, o3, some (.int (x4 + 6)), o5, o6] st w nc ns Q) : Ev d m_La_law 479 [o0, o1, o2, o3, some (.int x4), o5, o6] st w nc ns Q := by
  refine ev_goto 1281 d_La_law_479 (by decide) ?_
  refine ev_iinc 6 d_La_law_1281 (by decide) rfl (by decide) hc1 ?_
  refine ev_goto 23 d_La_law_1284 (by decide) ?_
  exact k
theorem t_La_law_482 {d : Nat} {st : List Value} {a0 : Nat} {a1 : Nat} {o2 : Option Value} {a3 : Nat} {x4 : Int32} {o5 : Option Value} {o6 : Option Value} {n2 : Nat} {f3 : Nat → Int32} {w : qk_W} {nc ns : Nat} {Q : Option Value ⊕ Nat → qk_W → Nat → Nat → Prop}  (ha1 : wi w a0 n2 f3) (hi4 : vp_in (x4 + 1) n2) (h8 : (st.map fun v => Value.category v).sum ≤ 8) (k : Ev d m_La_hear 0 [some (.ref a1), some (.int (f3 (x4 + 1).toNatClampNeg)), some (.ref a3), none] [] w nc ns (fun r w1 nc1 ns1 => match r with | .inl v => Ev (d + 1) m_La_law 493 [some (.ref a0), some (.ref a1), o2, some (.ref a3), some (.int x4), o5, o6] (v.toList ++ st) w1 nc1 ns1 Q | .inr x => Q (.inr x) w1 nc1 ns1)) : Ev (d + 1) m_La_law 482 [some (.ref a0), some (.ref a1), o2, some (.ref a3), some (.int x4), o5, o6] st w nc ns Q := by
  refine ev_aload_n d_La_law_482 rfl rfl ?_
  refine ev_aload_n d_La_law_483 rfl rfl ?_
  refine ev_iload d_La_law_484 rfl ?_
  refine ev_iconst 1 d_La_law_486 (by decide) ?_
  refine ev_iadd d_La_law_487 ?_
  refine ev_iald d_La_law_488 ha1 hi4 ?_
  refine ev_aload_n d_La_law_489 rfl rfl ?_
  exact ev_call (M' := m_La_hear) (As := [.ref a1, .int (f3 (x4 + 1).toNatClampNeg), .ref a3]) (st := st) d_La_law_490 i_La_hear (fun h => absurd h (by decide +kernel)) cw_La_113 rfl rfl trivial rfl (Nat.le_of_ble_eq_true rfl) h8 k
theorem t_La_law_493 {d : Nat} {st : List Value} {a0 : Nat} {o1 : Option Value} {a2 : Nat} {o3 : Option Value} {x4 : Int32} {o5 : Option Value} {o6 : Option Value} {y0 : Int32} {n3 : Nat} {f4 : Nat → Int32} {fsb : List Value} {w : qk_W} {nc ns : Nat} {Q : Option Value ⊕ Nat → qk_W → Nat → Nat → Prop}  (hc1 : qk_c2 [some (.ref a0), o1, some (.ref a2), o3, some (.int x4), o5, o6] 5 = true) (ha2 : wi w a0 n3 f4) (hi5 : vp_in (x4 + 1) n3) (hb : wo w a2 11 fsb) (h8 : (st.map fun v => Value.category v).sum ≤ 8) (k : Ev d m_Mo_hear 0 [some (.ref a2), some (.int (f4 (x4 + 1).toNatClampNeg)), none, none, none, none, none, none, none, none] [] w nc ns (fun r w1 nc1 ns1 => match r with | .inl v => Ev (d + 1) m_La_law 505 [some (.ref a0), o1, some (.ref a2), o3, some (.int x4), some (.int y0), o6] (v.toList ++ st) w1 nc1 ns1 Q | .inr x => Q (.inr x) w1 nc1 ns1)) : Ev (d + 1) m_La_law 493 [some (.ref a0), o1, some (.ref a2), o3, some (.int x4), o5, o6] (.int y0 :: st) w nc ns Q := by
  refine ev_istore d_La_law_493 (by decide) hc1 ?_
  refine ev_aload_n d_La_law_495 rfl rfl ?_
  refine ev_aload_n d_La_law_496 rfl rfl ?_
  refine ev_iload d_La_law_497 rfl ?_
  refine ev_iconst 1 d_La_law_499 (by decide) ?_
  refine ev_iadd d_La_law_500 ?_
  refine ev_iald d_La_law_501 ha2 hi5 ?_
  exact ev_call (M' := m_Mo_hear) (As := [.ref a2, .int (f4 (x4 + 1).toNatClampNeg)]) (st := st) d_La_law_502 i_Mo_hear (fun h => absurd h (by decide +kernel)) cw_La_115 rfl rfl ⟨hb.1, 11, _, _, hb.2, rfl, rfl⟩ rfl (Nat.le_of_ble_eq_true rfl) h8 k
theorem t_La_law_505 {d : Nat} {st : List Value} {o0 : Option Value} {o1 : Option Value} {a2 : Nat} {o3 : Option Value} {o4 : Option Value} {o5 : Option Value} {o6 : Option Value} {y0 : Int32} {fsb : List Value} {w : qk_W} {nc ns : Nat} {Q : Option Value ⊕ Nat → qk_W → Nat → Nat → Prop}  (hc1 : qk_c2 [o0, o1, some (.ref a2), o3, o4, o5, o6] 6 = true) (hb : wo w a2 11 fsb) (h8 : (st.map fun v => Value.category v).sum ≤ 8) (k : Ev d m_Mo_thrown 0 [some (.ref a2)] [] w nc ns (fun r w1 nc1 ns1 => match r with | .inl v => Ev (d + 1) m_La_law 511 [o0, o1, some (.ref a2), o3, o4, o5, some (.int y0)] (v.toList ++ st) w1 nc1 ns1 Q | .inr x => Q (.inr x) w1 nc1 ns1)) : Ev (d + 1) m_La_law 505 [o0, o1, some (.ref a2), o3, o4, o5, o6] (.int y0 :: st) w nc ns Q := by
  refine ev_istore d_La_law_505 (by decide) hc1 ?_
  refine ev_aload_n d_La_law_507 rfl rfl ?_
  exact ev_call (M' := m_Mo_thrown) (As := [.ref a2]) (st := st) d_La_law_508 i_Mo_thrown (fun h => absurd h (by decide +kernel)) cw_La_86 rfl rfl ⟨hb.1, 11, _, _, hb.2, rfl, rfl⟩ rfl (Nat.le_of_ble_eq_true rfl) h8 k
theorem t_La_law_511 {d : Nat} {st : List Value} {o0 : Option Value} {o1 : Option Value} {o2 : Option Value} {o3 : Option Value} {o4 : Option Value} {x5 : Int32} {o6 : Option Value} {y0 : Int32} {w : qk_W} {nc ns : Nat} {Q : Option Value ⊕ Nat → qk_W → Nat → Nat → Prop}   (kt : y0 = x5 → Ev d m_La_law 518 [o0, o1, o2, o3, o4, some (.int x5), o6] st w nc ns Q) (kf : ¬ (y0 = x5) → Ev d m_La_law 516 [o0, o1, o2, o3, o4, some (.int x5), o6] st w nc ns Q) : Ev d m_La_law 511 [o0, o1, o2, o3, o4, some (.int x5), o6] (.int y0 :: st) w nc ns Q := by
  refine ev_iload d_La_law_511 rfl ?_
  exact ev_icmp_eq 518 d_La_law_513 (by decide) kt kf
theorem t_La_law_516 {d : Nat} {o0 : Option Value} {o1 : Option Value} {o2 : Option Value} {o3 : Option Value} {o4 : Option Value} {o5 : Option Value} {o6 : Option Value} {w : qk_W} {nc ns : Nat} {Q : Option Value ⊕ Nat → qk_W → Nat → Nat → Prop}   (hq : Q (.inl (some (.int 0))) w nc ns) : Ev d m_La_law 516 [o0, o1, o2, o3, o4, o5, o6] [] w nc ns Q := by
  refine ev_iconst 0 d_La_law_516 (by decide) ?_
  exact ev_iret d_La_law_517 rfl rfl hq
theorem t_La_law_518 {d : Nat} {st : List Value} {o0 : Option Value} {o1 : Option Value} {o2 : Option Value} {o3 : Option Value} {o4 : Option Value} {x5 : Int32} {o6 : Option Value} {w : qk_W} {nc ns : Nat} {Q : Option Value ⊕ Nat → qk_W → Nat → Nat → Prop}   (kt : ¬ x5 = 0 → Ev d m_La_law 535 [o0, o1, o2, o3, o4, some (.int x5), o6] st w nc ns Q) (kf : x5 = 0 → Ev d m_La_law 523 [o0, o1, o2, o3, o4, some (.int x5), o6] st w nc ns Q) : Ev d m_La_law 518 [o0, o1, o2, o3, o4, some (.int x5), o6] st w nc ns Q := by
  refine ev_iload d_La_law_518 rfl ?_
  exact ev_if_ne 535 d_La_law_520 (by decide) kt kf
theorem t_La_law_523 {d : Nat} {st : List Value} {o0 : Option Value} {o1 : Option Value} {o2 : Option Value} {a3 : Nat} {o4 : Option Value} {o5 : Option Value} {x6 : Int32} {n2 : Nat} {f3 : Nat → Int64} {w : qk_W} {nc ns : Nat} {Q : Option Value ⊕ Nat → qk_W → Nat → Nat → Prop}  (ha1 : wl w a3 n2 f3) (hi4 : vp_in 0 n2) (kt : (lg_cmp (f3 (0 : Int32).toNatClampNeg) (Int32.toInt64 x6)) = 0 → Ev d m_La_law 535 [o0, o1, o2, some (.ref a3), o4, o5, some (.int x6)] st w nc ns Q) (kf : ¬ ((lg_cmp (f3 (0 : Int32).toNatClampNeg) (Int32.toInt64 x6)) = 0) → Ev d m_La_law 533 [o0, o1, o2, some (.ref a3), o4, o5, some (.int x6)] st w nc ns Q) : Ev d m_La_law 523 [o0, o1, o2, some (.ref a3), o4, o5, some (.int x6)] st w nc ns Q := by
  refine ev_aload_n d_La_law_523 rfl rfl ?_
  refine ev_iconst 0 d_La_law_524 (by decide) ?_
  refine ev_lald d_La_law_525 ha1.1 ha1.2 hi4 ?_
  refine ev_iload d_La_law_526 rfl ?_
  refine ev_i2l d_La_law_528 ?_
  refine ev_lcmp d_La_law_529 ?_
  exact ev_if_eq 535 d_La_law_530 (by decide) kt kf
theorem t_La_law_533 {d : Nat} {o0 : Option Value} {o1 : Option Value} {o2 : Option Value} {o3 : Option Value} {o4 : Option Value} {o5 : Option Value} {o6 : Option Value} {w : qk_W} {nc ns : Nat} {Q : Option Value ⊕ Nat → qk_W → Nat → Nat → Prop}   (hq : Q (.inl (some (.int 0))) w nc ns) : Ev d m_La_law 533 [o0, o1, o2, o3, o4, o5, o6] [] w nc ns Q := by
  refine ev_iconst 0 d_La_law_533 (by decide) ?_
  exact ev_iret d_La_law_534 rfl rfl hq
theorem t_La_law_535 {d : Nat} {st : List Value} {o0 : Option Value} {o1 : Option Value} {o2 : Option Value} {o3 : Option Value} {x4 : Int32} {o5 : Option Value} {o6 : Option Value} {w : qk_W} {nc ns : Nat} {Q : Option Value ⊕ Nat → qk_W → Nat → Nat → Prop}  (hc1 : qk_c2 [o0, o1, o2, o3, some (.int x4), o5, o6] 4 = true) (k : Ev d m_La_law 23 [o0, o1, o2, o3, some (.int (x4 + 6)), o5, o6] st w nc ns Q) : Ev d m_La_law 535 [o0, o1, o2, o3, some (.int x4), o5, o6] st w nc ns Q := by
  refine ev_goto 1281 d_La_law_535 (by decide) ?_
  refine ev_iinc 6 d_La_law_1281 (by decide) rfl (by decide) hc1 ?_
  refine ev_goto 23 d_La_law_1284 (by decide) ?_
  exact k
theorem t_La_law_538 {d : Nat} {st : List Value} {a0 : Nat} {a1 : Nat} {o2 : Option Value} {o3 : Option Value} {x4 : Int32} {o5 : Option Value} {o6 : Option Value} {n2 : Nat} {f3 : Nat → Int32} {w : qk_W} {nc ns : Nat} {Q : Option Value ⊕ Nat → qk_W → Nat → Nat → Prop}  (ha1 : wi w a0 n2 f3) (hi4 : vp_in (x4 + 1) n2) (h8 : (st.map fun v => Value.category v).sum ≤ 8) (k : Ev d m_La_lose 0 [some (.ref a1), some (.int (f3 (x4 + 1).toNatClampNeg)), none] [] w nc ns (fun r w1 nc1 ns1 => match r with | .inl v => Ev (d + 1) m_La_law 548 [some (.ref a0), some (.ref a1), o2, o3, some (.int x4), o5, o6] (v.toList ++ st) w1 nc1 ns1 Q | .inr x => Q (.inr x) w1 nc1 ns1)) : Ev (d + 1) m_La_law 538 [some (.ref a0), some (.ref a1), o2, o3, some (.int x4), o5, o6] st w nc ns Q := by
  refine ev_aload_n d_La_law_538 rfl rfl ?_
  refine ev_aload_n d_La_law_539 rfl rfl ?_
  refine ev_iload d_La_law_540 rfl ?_
  refine ev_iconst 1 d_La_law_542 (by decide) ?_
  refine ev_iadd d_La_law_543 ?_
  refine ev_iald d_La_law_544 ha1 hi4 ?_
  exact ev_call (M' := m_La_lose) (As := [.ref a1, .int (f3 (x4 + 1).toNatClampNeg)]) (st := st) d_La_law_545 i_La_lose (fun h => absurd h (by decide +kernel)) cw_La_116 rfl rfl trivial rfl (Nat.le_of_ble_eq_true rfl) h8 k
theorem t_La_law_548 {d : Nat} {st : List Value} {a0 : Nat} {o1 : Option Value} {a2 : Nat} {o3 : Option Value} {x4 : Int32} {o5 : Option Value} {o6 : Option Value} {y0 : Int32} {n3 : Nat} {f4 : Nat → Int32} {fsb : List Value} {w : qk_W} {nc ns : Nat} {Q : Option Value ⊕ Nat → qk_W → Nat → Nat → Prop}  (hc1 : qk_c2 [some (.ref a0), o1, some (.ref a2), o3, some (.int x4), o5, o6] 5 = true) (ha2 : wi w a0 n3 f4) (hi5 : vp_in (x4 + 1) n3) (hb : wo w a2 11 fsb) (h8 : (st.map fun v => Value.category v).sum ≤ 8) (k : Ev d m_Mo_lose 0 [some (.ref a2), some (.int (f4 (x4 + 1).toNatClampNeg))] [] w nc ns (fun r w1 nc1 ns1 => match r with | .inl v => Ev (d + 1) m_La_law 560 [some (.ref a0), o1, some (.ref a2), o3, some (.int x4), some (.int y0), o6] (v.toList ++ st) w1 nc1 ns1 Q | .inr x => Q (.inr x) w1 nc1 ns1)) : Ev (d + 1) m_La_law 548 [some (.ref a0), o1, some (.ref a2), o3, some (.int x4), o5, o6] (.int y0 :: st) w nc ns Q := by
  refine ev_istore d_La_law_548 (by decide) hc1 ?_
  refine ev_aload_n d_La_law_550 rfl rfl ?_
  refine ev_aload_n d_La_law_551 rfl rfl ?_
  refine ev_iload d_La_law_552 rfl ?_
  refine ev_iconst 1 d_La_law_554 (by decide) ?_
  refine ev_iadd d_La_law_555 ?_
  refine ev_iald d_La_law_556 ha2 hi5 ?_
  exact ev_call (M' := m_Mo_lose) (As := [.ref a2, .int (f4 (x4 + 1).toNatClampNeg)]) (st := st) d_La_law_557 i_Mo_lose (fun h => absurd h (by decide +kernel)) cw_La_118 rfl rfl ⟨hb.1, 11, _, _, hb.2, rfl, rfl⟩ rfl (Nat.le_of_ble_eq_true rfl) h8 k
theorem t_La_law_560 {d : Nat} {st : List Value} {o0 : Option Value} {o1 : Option Value} {a2 : Nat} {o3 : Option Value} {o4 : Option Value} {o5 : Option Value} {o6 : Option Value} {fsb : List Value} {w : qk_W} {nc ns : Nat} {Q : Option Value ⊕ Nat → qk_W → Nat → Nat → Prop}  (hb : wo w a2 11 fsb) (h8 : (st.map fun v => Value.category v).sum ≤ 8) (k : Ev d m_Mo_thrown 0 [some (.ref a2)] [] w nc ns (fun r w1 nc1 ns1 => match r with | .inl v => Ev (d + 1) m_La_law 564 [o0, o1, some (.ref a2), o3, o4, o5, o6] (v.toList ++ st) w1 nc1 ns1 Q | .inr x => Q (.inr x) w1 nc1 ns1)) : Ev (d + 1) m_La_law 560 [o0, o1, some (.ref a2), o3, o4, o5, o6] st w nc ns Q := by
  refine ev_aload_n d_La_law_560 rfl rfl ?_
  exact ev_call (M' := m_Mo_thrown) (As := [.ref a2]) (st := st) d_La_law_561 i_Mo_thrown (fun h => absurd h (by decide +kernel)) cw_La_86 rfl rfl ⟨hb.1, 11, _, _, hb.2, rfl, rfl⟩ rfl (Nat.le_of_ble_eq_true rfl) h8 k
theorem t_La_law_564 {d : Nat} {st : List Value} {o0 : Option Value} {o1 : Option Value} {o2 : Option Value} {o3 : Option Value} {o4 : Option Value} {x5 : Int32} {o6 : Option Value} {y0 : Int32} {w : qk_W} {nc ns : Nat} {Q : Option Value ⊕ Nat → qk_W → Nat → Nat → Prop}   (kt : y0 = x5 → Ev d m_La_law 571 [o0, o1, o2, o3, o4, some (.int x5), o6] st w nc ns Q) (kf : ¬ (y0 = x5) → Ev d m_La_law 569 [o0, o1, o2, o3, o4, some (.int x5), o6] st w nc ns Q) : Ev d m_La_law 564 [o0, o1, o2, o3, o4, some (.int x5), o6] (.int y0 :: st) w nc ns Q := by
  refine ev_iload d_La_law_564 rfl ?_
  exact ev_icmp_eq 571 d_La_law_566 (by decide) kt kf
theorem t_La_law_569 {d : Nat} {o0 : Option Value} {o1 : Option Value} {o2 : Option Value} {o3 : Option Value} {o4 : Option Value} {o5 : Option Value} {o6 : Option Value} {w : qk_W} {nc ns : Nat} {Q : Option Value ⊕ Nat → qk_W → Nat → Nat → Prop}   (hq : Q (.inl (some (.int 0))) w nc ns) : Ev d m_La_law 569 [o0, o1, o2, o3, o4, o5, o6] [] w nc ns Q := by
  refine ev_iconst 0 d_La_law_569 (by decide) ?_
  exact ev_iret d_La_law_570 rfl rfl hq
theorem t_La_law_571 {d : Nat} {st : List Value} {o0 : Option Value} {o1 : Option Value} {o2 : Option Value} {o3 : Option Value} {x4 : Int32} {o5 : Option Value} {o6 : Option Value} {w : qk_W} {nc ns : Nat} {Q : Option Value ⊕ Nat → qk_W → Nat → Nat → Prop}  (hc1 : qk_c2 [o0, o1, o2, o3, some (.int x4), o5, o6] 4 = true) (k : Ev d m_La_law 23 [o0, o1, o2, o3, some (.int (x4 + 6)), o5, o6] st w nc ns Q) : Ev d m_La_law 571 [o0, o1, o2, o3, some (.int x4), o5, o6] st w nc ns Q := by
  refine ev_goto 1281 d_La_law_571 (by decide) ?_
  refine ev_iinc 6 d_La_law_1281 (by decide) rfl (by decide) hc1 ?_
  refine ev_goto 23 d_La_law_1284 (by decide) ?_
  exact k
theorem t_La_law_574 {d : Nat} {st : List Value} {a0 : Nat} {a1 : Nat} {o2 : Option Value} {a3 : Nat} {x4 : Int32} {o5 : Option Value} {o6 : Option Value} {n2 : Nat} {f3 : Nat → Int32} {w : qk_W} {nc ns : Nat} {Q : Option Value ⊕ Nat → qk_W → Nat → Nat → Prop}  (ha1 : wi w a0 n2 f3) (hi4 : vp_in (x4 + 1) n2) (h8 : (st.map fun v => Value.category v).sum ≤ 8) (k : Ev d m_La_length 0 [some (.ref a1), some (.int (f3 (x4 + 1).toNatClampNeg)), some (.ref a3), none] [] w nc ns (fun r w1 nc1 ns1 => match r with | .inl v => Ev (d + 1) m_La_law 585 [some (.ref a0), some (.ref a1), o2, some (.ref a3), some (.int x4), o5, o6] (v.toList ++ st) w1 nc1 ns1 Q | .inr x => Q (.inr x) w1 nc1 ns1)) : Ev (d + 1) m_La_law 574 [some (.ref a0), some (.ref a1), o2, some (.ref a3), some (.int x4), o5, o6] st w nc ns Q := by
  refine ev_aload_n d_La_law_574 rfl rfl ?_
  refine ev_aload_n d_La_law_575 rfl rfl ?_
  refine ev_iload d_La_law_576 rfl ?_
  refine ev_iconst 1 d_La_law_578 (by decide) ?_
  refine ev_iadd d_La_law_579 ?_
  refine ev_iald d_La_law_580 ha1 hi4 ?_
  refine ev_aload_n d_La_law_581 rfl rfl ?_
  exact ev_call (M' := m_La_length) (As := [.ref a1, .int (f3 (x4 + 1).toNatClampNeg), .ref a3]) (st := st) d_La_law_582 i_La_length (fun h => absurd h (by decide +kernel)) cw_La_119 rfl rfl trivial rfl (Nat.le_of_ble_eq_true rfl) h8 k
theorem t_La_law_585 {d : Nat} {st : List Value} {a0 : Nat} {o1 : Option Value} {a2 : Nat} {o3 : Option Value} {x4 : Int32} {o5 : Option Value} {o6 : Option Value} {y0 : Int32} {n3 : Nat} {f4 : Nat → Int32} {fsb : List Value} {w : qk_W} {nc ns : Nat} {Q : Option Value ⊕ Nat → qk_W → Nat → Nat → Prop}  (hc1 : qk_c2 [some (.ref a0), o1, some (.ref a2), o3, some (.int x4), o5, o6] 5 = true) (ha2 : wi w a0 n3 f4) (hi5 : vp_in (x4 + 1) n3) (hb : wo w a2 11 fsb) (h8 : (st.map fun v => Value.category v).sum ≤ 8) (k : Ev d m_Mo_length 0 [some (.ref a2), some (.int (f4 (x4 + 1).toNatClampNeg))] [] w nc ns (fun r w1 nc1 ns1 => match r with | .inl v => Ev (d + 1) m_La_law 597 [some (.ref a0), o1, some (.ref a2), o3, some (.int x4), some (.int y0), o6] (v.toList ++ st) w1 nc1 ns1 Q | .inr x => Q (.inr x) w1 nc1 ns1)) : Ev (d + 1) m_La_law 585 [some (.ref a0), o1, some (.ref a2), o3, some (.int x4), o5, o6] (.int y0 :: st) w nc ns Q := by
  refine ev_istore d_La_law_585 (by decide) hc1 ?_
  refine ev_aload_n d_La_law_587 rfl rfl ?_
  refine ev_aload_n d_La_law_588 rfl rfl ?_
  refine ev_iload d_La_law_589 rfl ?_
  refine ev_iconst 1 d_La_law_591 (by decide) ?_
  refine ev_iadd d_La_law_592 ?_
  refine ev_iald d_La_law_593 ha2 hi5 ?_
  exact ev_call (M' := m_Mo_length) (As := [.ref a2, .int (f4 (x4 + 1).toNatClampNeg)]) (st := st) d_La_law_594 i_Mo_length (fun h => absurd h (by decide +kernel)) cw_La_121 rfl rfl ⟨hb.1, 11, _, _, hb.2, rfl, rfl⟩ rfl (Nat.le_of_ble_eq_true rfl) h8 k
theorem t_La_law_597 {d : Nat} {st : List Value} {o0 : Option Value} {o1 : Option Value} {a2 : Nat} {o3 : Option Value} {o4 : Option Value} {o5 : Option Value} {o6 : Option Value} {y0 : Int32} {fsb : List Value} {w : qk_W} {nc ns : Nat} {Q : Option Value ⊕ Nat → qk_W → Nat → Nat → Prop}  (hc1 : qk_c2 [o0, o1, some (.ref a2), o3, o4, o5, o6] 6 = true) (hb : wo w a2 11 fsb) (h8 : (st.map fun v => Value.category v).sum ≤ 8) (k : Ev d m_Mo_thrown 0 [some (.ref a2)] [] w nc ns (fun r w1 nc1 ns1 => match r with | .inl v => Ev (d + 1) m_La_law 603 [o0, o1, some (.ref a2), o3, o4, o5, some (.int y0)] (v.toList ++ st) w1 nc1 ns1 Q | .inr x => Q (.inr x) w1 nc1 ns1)) : Ev (d + 1) m_La_law 597 [o0, o1, some (.ref a2), o3, o4, o5, o6] (.int y0 :: st) w nc ns Q := by
  refine ev_istore d_La_law_597 (by decide) hc1 ?_
  refine ev_aload_n d_La_law_599 rfl rfl ?_
  exact ev_call (M' := m_Mo_thrown) (As := [.ref a2]) (st := st) d_La_law_600 i_Mo_thrown (fun h => absurd h (by decide +kernel)) cw_La_86 rfl rfl ⟨hb.1, 11, _, _, hb.2, rfl, rfl⟩ rfl (Nat.le_of_ble_eq_true rfl) h8 k
theorem t_La_law_603 {d : Nat} {st : List Value} {o0 : Option Value} {o1 : Option Value} {o2 : Option Value} {o3 : Option Value} {o4 : Option Value} {x5 : Int32} {o6 : Option Value} {y0 : Int32} {w : qk_W} {nc ns : Nat} {Q : Option Value ⊕ Nat → qk_W → Nat → Nat → Prop}   (kt : y0 = x5 → Ev d m_La_law 610 [o0, o1, o2, o3, o4, some (.int x5), o6] st w nc ns Q) (kf : ¬ (y0 = x5) → Ev d m_La_law 608 [o0, o1, o2, o3, o4, some (.int x5), o6] st w nc ns Q) : Ev d m_La_law 603 [o0, o1, o2, o3, o4, some (.int x5), o6] (.int y0 :: st) w nc ns Q := by
  refine ev_iload d_La_law_603 rfl ?_
  exact ev_icmp_eq 610 d_La_law_605 (by decide) kt kf
theorem t_La_law_608 {d : Nat} {o0 : Option Value} {o1 : Option Value} {o2 : Option Value} {o3 : Option Value} {o4 : Option Value} {o5 : Option Value} {o6 : Option Value} {w : qk_W} {nc ns : Nat} {Q : Option Value ⊕ Nat → qk_W → Nat → Nat → Prop}   (hq : Q (.inl (some (.int 0))) w nc ns) : Ev d m_La_law 608 [o0, o1, o2, o3, o4, o5, o6] [] w nc ns Q := by
  refine ev_iconst 0 d_La_law_608 (by decide) ?_
  exact ev_iret d_La_law_609 rfl rfl hq
theorem t_La_law_610 {d : Nat} {st : List Value} {o0 : Option Value} {o1 : Option Value} {o2 : Option Value} {o3 : Option Value} {o4 : Option Value} {x5 : Int32} {o6 : Option Value} {w : qk_W} {nc ns : Nat} {Q : Option Value ⊕ Nat → qk_W → Nat → Nat → Prop}   (kt : ¬ x5 = 0 → Ev d m_La_law 627 [o0, o1, o2, o3, o4, some (.int x5), o6] st w nc ns Q) (kf : x5 = 0 → Ev d m_La_law 615 [o0, o1, o2, o3, o4, some (.int x5), o6] st w nc ns Q) : Ev d m_La_law 610 [o0, o1, o2, o3, o4, some (.int x5), o6] st w nc ns Q := by
  refine ev_iload d_La_law_610 rfl ?_
  exact ev_if_ne 627 d_La_law_612 (by decide) kt kf
theorem t_La_law_615 {d : Nat} {st : List Value} {o0 : Option Value} {o1 : Option Value} {o2 : Option Value} {a3 : Nat} {o4 : Option Value} {o5 : Option Value} {x6 : Int32} {n2 : Nat} {f3 : Nat → Int64} {w : qk_W} {nc ns : Nat} {Q : Option Value ⊕ Nat → qk_W → Nat → Nat → Prop}  (ha1 : wl w a3 n2 f3) (hi4 : vp_in 0 n2) (kt : (lg_cmp (f3 (0 : Int32).toNatClampNeg) (Int32.toInt64 x6)) = 0 → Ev d m_La_law 627 [o0, o1, o2, some (.ref a3), o4, o5, some (.int x6)] st w nc ns Q) (kf : ¬ ((lg_cmp (f3 (0 : Int32).toNatClampNeg) (Int32.toInt64 x6)) = 0) → Ev d m_La_law 625 [o0, o1, o2, some (.ref a3), o4, o5, some (.int x6)] st w nc ns Q) : Ev d m_La_law 615 [o0, o1, o2, some (.ref a3), o4, o5, some (.int x6)] st w nc ns Q := by
  refine ev_aload_n d_La_law_615 rfl rfl ?_
  refine ev_iconst 0 d_La_law_616 (by decide) ?_
  refine ev_lald d_La_law_617 ha1.1 ha1.2 hi4 ?_
  refine ev_iload d_La_law_618 rfl ?_
  refine ev_i2l d_La_law_620 ?_
  refine ev_lcmp d_La_law_621 ?_
  exact ev_if_eq 627 d_La_law_622 (by decide) kt kf
theorem t_La_law_625 {d : Nat} {o0 : Option Value} {o1 : Option Value} {o2 : Option Value} {o3 : Option Value} {o4 : Option Value} {o5 : Option Value} {o6 : Option Value} {w : qk_W} {nc ns : Nat} {Q : Option Value ⊕ Nat → qk_W → Nat → Nat → Prop}   (hq : Q (.inl (some (.int 0))) w nc ns) : Ev d m_La_law 625 [o0, o1, o2, o3, o4, o5, o6] [] w nc ns Q := by
  refine ev_iconst 0 d_La_law_625 (by decide) ?_
  exact ev_iret d_La_law_626 rfl rfl hq
theorem t_La_law_627 {d : Nat} {st : List Value} {o0 : Option Value} {o1 : Option Value} {o2 : Option Value} {o3 : Option Value} {x4 : Int32} {o5 : Option Value} {o6 : Option Value} {w : qk_W} {nc ns : Nat} {Q : Option Value ⊕ Nat → qk_W → Nat → Nat → Prop}  (hc1 : qk_c2 [o0, o1, o2, o3, some (.int x4), o5, o6] 4 = true) (k : Ev d m_La_law 23 [o0, o1, o2, o3, some (.int (x4 + 6)), o5, o6] st w nc ns Q) : Ev d m_La_law 627 [o0, o1, o2, o3, some (.int x4), o5, o6] st w nc ns Q := by
  refine ev_goto 1281 d_La_law_627 (by decide) ?_
  refine ev_iinc 6 d_La_law_1281 (by decide) rfl (by decide) hc1 ?_
  refine ev_goto 23 d_La_law_1284 (by decide) ?_
  exact k
theorem t_La_law_630 {d : Nat} {st : List Value} {a0 : Nat} {a1 : Nat} {o2 : Option Value} {a3 : Nat} {x4 : Int32} {o5 : Option Value} {o6 : Option Value} {n2 : Nat} {f3 : Nat → Int32} {w : qk_W} {nc ns : Nat} {Q : Option Value ⊕ Nat → qk_W → Nat → Nat → Prop}  (ha1 : wi w a0 n2 f3) (hi4 : vp_in (x4 + 1) n2) (hi5 : vp_in (x4 + 2) n2) (h8 : (st.map fun v => Value.category v).sum ≤ 8) (k : Ev d m_La_air 0 [some (.ref a1), some (.int (f3 (x4 + 1).toNatClampNeg)), some (.int (f3 (x4 + 2).toNatClampNeg)), some (.ref a3), none] [] w nc ns (fun r w1 nc1 ns1 => match r with | .inl v => Ev (d + 1) m_La_law 647 [some (.ref a0), some (.ref a1), o2, some (.ref a3), some (.int x4), o5, o6] (v.toList ++ st) w1 nc1 ns1 Q | .inr x => Q (.inr x) w1 nc1 ns1)) : Ev (d + 1) m_La_law 630 [some (.ref a0), some (.ref a1), o2, some (.ref a3), some (.int x4), o5, o6] st w nc ns Q := by
  refine ev_aload_n d_La_law_630 rfl rfl ?_
  refine ev_aload_n d_La_law_631 rfl rfl ?_
  refine ev_iload d_La_law_632 rfl ?_
  refine ev_iconst 1 d_La_law_634 (by decide) ?_
  refine ev_iadd d_La_law_635 ?_
  refine ev_iald d_La_law_636 ha1 hi4 ?_
  refine ev_aload_n d_La_law_637 rfl rfl ?_
  refine ev_iload d_La_law_638 rfl ?_
  refine ev_iconst 2 d_La_law_640 (by decide) ?_
  refine ev_iadd d_La_law_641 ?_
  refine ev_iald d_La_law_642 ha1 hi5 ?_
  refine ev_aload_n d_La_law_643 rfl rfl ?_
  exact ev_call (M' := m_La_air) (As := [.ref a1, .int (f3 (x4 + 1).toNatClampNeg), .int (f3 (x4 + 2).toNatClampNeg), .ref a3]) (st := st) d_La_law_644 i_La_air (fun h => absurd h (by decide +kernel)) cw_La_122 rfl rfl trivial rfl (Nat.le_of_ble_eq_true rfl) h8 k
theorem t_La_law_647 {d : Nat} {st : List Value} {a0 : Nat} {o1 : Option Value} {a2 : Nat} {o3 : Option Value} {x4 : Int32} {o5 : Option Value} {o6 : Option Value} {y0 : Int32} {n3 : Nat} {f4 : Nat → Int32} {fsb : List Value} {w : qk_W} {nc ns : Nat} {Q : Option Value ⊕ Nat → qk_W → Nat → Nat → Prop}  (hc1 : qk_c2 [some (.ref a0), o1, some (.ref a2), o3, some (.int x4), o5, o6] 5 = true) (ha2 : wi w a0 n3 f4) (hi5 : vp_in (x4 + 1) n3) (hi6 : vp_in (x4 + 2) n3) (hb : wo w a2 11 fsb) (h8 : (st.map fun v => Value.category v).sum ≤ 8) (k : Ev d m_Mo_air 0 [some (.ref a2), some (.int (f4 (x4 + 1).toNatClampNeg)), some (.int (f4 (x4 + 2).toNatClampNeg))] [] w nc ns (fun r w1 nc1 ns1 => match r with | .inl v => Ev (d + 1) m_La_law 665 [some (.ref a0), o1, some (.ref a2), o3, some (.int x4), some (.int y0), o6] (v.toList ++ st) w1 nc1 ns1 Q | .inr x => Q (.inr x) w1 nc1 ns1)) : Ev (d + 1) m_La_law 647 [some (.ref a0), o1, some (.ref a2), o3, some (.int x4), o5, o6] (.int y0 :: st) w nc ns Q := by
  refine ev_istore d_La_law_647 (by decide) hc1 ?_
  refine ev_aload_n d_La_law_649 rfl rfl ?_
  refine ev_aload_n d_La_law_650 rfl rfl ?_
  refine ev_iload d_La_law_651 rfl ?_
  refine ev_iconst 1 d_La_law_653 (by decide) ?_
  refine ev_iadd d_La_law_654 ?_
  refine ev_iald d_La_law_655 ha2 hi5 ?_
  refine ev_aload_n d_La_law_656 rfl rfl ?_
  refine ev_iload d_La_law_657 rfl ?_
  refine ev_iconst 2 d_La_law_659 (by decide) ?_
  refine ev_iadd d_La_law_660 ?_
  refine ev_iald d_La_law_661 ha2 hi6 ?_
  exact ev_call (M' := m_Mo_air) (As := [.ref a2, .int (f4 (x4 + 1).toNatClampNeg), .int (f4 (x4 + 2).toNatClampNeg)]) (st := st) d_La_law_662 i_Mo_air (fun h => absurd h (by decide +kernel)) cw_La_124 rfl rfl ⟨hb.1, 11, _, _, hb.2, rfl, rfl⟩ rfl (Nat.le_of_ble_eq_true rfl) h8 k
theorem t_La_law_665 {d : Nat} {st : List Value} {o0 : Option Value} {o1 : Option Value} {a2 : Nat} {o3 : Option Value} {o4 : Option Value} {o5 : Option Value} {o6 : Option Value} {y0 : Int32} {fsb : List Value} {w : qk_W} {nc ns : Nat} {Q : Option Value ⊕ Nat → qk_W → Nat → Nat → Prop}  (hc1 : qk_c2 [o0, o1, some (.ref a2), o3, o4, o5, o6] 6 = true) (hb : wo w a2 11 fsb) (h8 : (st.map fun v => Value.category v).sum ≤ 8) (k : Ev d m_Mo_thrown 0 [some (.ref a2)] [] w nc ns (fun r w1 nc1 ns1 => match r with | .inl v => Ev (d + 1) m_La_law 671 [o0, o1, some (.ref a2), o3, o4, o5, some (.int y0)] (v.toList ++ st) w1 nc1 ns1 Q | .inr x => Q (.inr x) w1 nc1 ns1)) : Ev (d + 1) m_La_law 665 [o0, o1, some (.ref a2), o3, o4, o5, o6] (.int y0 :: st) w nc ns Q := by
  refine ev_istore d_La_law_665 (by decide) hc1 ?_
  refine ev_aload_n d_La_law_667 rfl rfl ?_
  exact ev_call (M' := m_Mo_thrown) (As := [.ref a2]) (st := st) d_La_law_668 i_Mo_thrown (fun h => absurd h (by decide +kernel)) cw_La_86 rfl rfl ⟨hb.1, 11, _, _, hb.2, rfl, rfl⟩ rfl (Nat.le_of_ble_eq_true rfl) h8 k
theorem t_La_law_671 {d : Nat} {st : List Value} {o0 : Option Value} {o1 : Option Value} {o2 : Option Value} {o3 : Option Value} {o4 : Option Value} {x5 : Int32} {o6 : Option Value} {y0 : Int32} {w : qk_W} {nc ns : Nat} {Q : Option Value ⊕ Nat → qk_W → Nat → Nat → Prop}   (kt : y0 = x5 → Ev d m_La_law 678 [o0, o1, o2, o3, o4, some (.int x5), o6] st w nc ns Q) (kf : ¬ (y0 = x5) → Ev d m_La_law 676 [o0, o1, o2, o3, o4, some (.int x5), o6] st w nc ns Q) : Ev d m_La_law 671 [o0, o1, o2, o3, o4, some (.int x5), o6] (.int y0 :: st) w nc ns Q := by
  refine ev_iload d_La_law_671 rfl ?_
  exact ev_icmp_eq 678 d_La_law_673 (by decide) kt kf
theorem t_La_law_676 {d : Nat} {o0 : Option Value} {o1 : Option Value} {o2 : Option Value} {o3 : Option Value} {o4 : Option Value} {o5 : Option Value} {o6 : Option Value} {w : qk_W} {nc ns : Nat} {Q : Option Value ⊕ Nat → qk_W → Nat → Nat → Prop}   (hq : Q (.inl (some (.int 0))) w nc ns) : Ev d m_La_law 676 [o0, o1, o2, o3, o4, o5, o6] [] w nc ns Q := by
  refine ev_iconst 0 d_La_law_676 (by decide) ?_
  exact ev_iret d_La_law_677 rfl rfl hq
theorem t_La_law_678 {d : Nat} {st : List Value} {o0 : Option Value} {o1 : Option Value} {o2 : Option Value} {o3 : Option Value} {o4 : Option Value} {x5 : Int32} {o6 : Option Value} {w : qk_W} {nc ns : Nat} {Q : Option Value ⊕ Nat → qk_W → Nat → Nat → Prop}   (kt : ¬ x5 = 0 → Ev d m_La_law 695 [o0, o1, o2, o3, o4, some (.int x5), o6] st w nc ns Q) (kf : x5 = 0 → Ev d m_La_law 683 [o0, o1, o2, o3, o4, some (.int x5), o6] st w nc ns Q) : Ev d m_La_law 678 [o0, o1, o2, o3, o4, some (.int x5), o6] st w nc ns Q := by
  refine ev_iload d_La_law_678 rfl ?_
  exact ev_if_ne 695 d_La_law_680 (by decide) kt kf
theorem t_La_law_683 {d : Nat} {st : List Value} {o0 : Option Value} {o1 : Option Value} {o2 : Option Value} {a3 : Nat} {o4 : Option Value} {o5 : Option Value} {x6 : Int32} {n2 : Nat} {f3 : Nat → Int64} {w : qk_W} {nc ns : Nat} {Q : Option Value ⊕ Nat → qk_W → Nat → Nat → Prop}  (ha1 : wl w a3 n2 f3) (hi4 : vp_in 0 n2) (kt : (lg_cmp (f3 (0 : Int32).toNatClampNeg) (Int32.toInt64 x6)) = 0 → Ev d m_La_law 695 [o0, o1, o2, some (.ref a3), o4, o5, some (.int x6)] st w nc ns Q) (kf : ¬ ((lg_cmp (f3 (0 : Int32).toNatClampNeg) (Int32.toInt64 x6)) = 0) → Ev d m_La_law 693 [o0, o1, o2, some (.ref a3), o4, o5, some (.int x6)] st w nc ns Q) : Ev d m_La_law 683 [o0, o1, o2, some (.ref a3), o4, o5, some (.int x6)] st w nc ns Q := by
  refine ev_aload_n d_La_law_683 rfl rfl ?_
  refine ev_iconst 0 d_La_law_684 (by decide) ?_
  refine ev_lald d_La_law_685 ha1.1 ha1.2 hi4 ?_
  refine ev_iload d_La_law_686 rfl ?_
  refine ev_i2l d_La_law_688 ?_
  refine ev_lcmp d_La_law_689 ?_
  exact ev_if_eq 695 d_La_law_690 (by decide) kt kf
theorem t_La_law_693 {d : Nat} {o0 : Option Value} {o1 : Option Value} {o2 : Option Value} {o3 : Option Value} {o4 : Option Value} {o5 : Option Value} {o6 : Option Value} {w : qk_W} {nc ns : Nat} {Q : Option Value ⊕ Nat → qk_W → Nat → Nat → Prop}   (hq : Q (.inl (some (.int 0))) w nc ns) : Ev d m_La_law 693 [o0, o1, o2, o3, o4, o5, o6] [] w nc ns Q := by
  refine ev_iconst 0 d_La_law_693 (by decide) ?_
  exact ev_iret d_La_law_694 rfl rfl hq
theorem t_La_law_695 {d : Nat} {st : List Value} {o0 : Option Value} {o1 : Option Value} {o2 : Option Value} {o3 : Option Value} {x4 : Int32} {o5 : Option Value} {o6 : Option Value} {w : qk_W} {nc ns : Nat} {Q : Option Value ⊕ Nat → qk_W → Nat → Nat → Prop}  (hc1 : qk_c2 [o0, o1, o2, o3, some (.int x4), o5, o6] 4 = true) (k : Ev d m_La_law 23 [o0, o1, o2, o3, some (.int (x4 + 6)), o5, o6] st w nc ns Q) : Ev d m_La_law 695 [o0, o1, o2, o3, some (.int x4), o5, o6] st w nc ns Q := by
  refine ev_goto 1281 d_La_law_695 (by decide) ?_
  refine ev_iinc 6 d_La_law_1281 (by decide) rfl (by decide) hc1 ?_
  refine ev_goto 23 d_La_law_1284 (by decide) ?_
  exact k
theorem t_La_law_698 {d : Nat} {st : List Value} {a0 : Nat} {a1 : Nat} {o2 : Option Value} {o3 : Option Value} {x4 : Int32} {o5 : Option Value} {o6 : Option Value} {n2 : Nat} {f3 : Nat → Int32} {w : qk_W} {nc ns : Nat} {Q : Option Value ⊕ Nat → qk_W → Nat → Nat → Prop}  (ha1 : wi w a0 n2 f3) (hi4 : vp_in (x4 + 1) n2) (hi5 : vp_in (x4 + 2) n2) (hi6 : vp_in (x4 + 3) n2) (h8 : (st.map fun v => Value.category v).sum ≤ 8) (k : Ev d m_La_spoil 0 [some (.ref a1), some (.int (f3 (x4 + 1).toNatClampNeg)), some (.int (f3 (x4 + 2).toNatClampNeg)), some (.int (f3 (x4 + 3).toNatClampNeg)), none] [] w nc ns (fun r w1 nc1 ns1 => match r with | .inl v => Ev (d + 1) m_La_law 720 [some (.ref a0), some (.ref a1), o2, o3, some (.int x4), o5, o6] (v.toList ++ st) w1 nc1 ns1 Q | .inr x => Q (.inr x) w1 nc1 ns1)) : Ev (d + 1) m_La_law 698 [some (.ref a0), some (.ref a1), o2, o3, some (.int x4), o5, o6] st w nc ns Q := by
  refine ev_aload_n d_La_law_698 rfl rfl ?_
  refine ev_aload_n d_La_law_699 rfl rfl ?_
  refine ev_iload d_La_law_700 rfl ?_
  refine ev_iconst 1 d_La_law_702 (by decide) ?_
  refine ev_iadd d_La_law_703 ?_
  refine ev_iald d_La_law_704 ha1 hi4 ?_
  refine ev_aload_n d_La_law_705 rfl rfl ?_
  refine ev_iload d_La_law_706 rfl ?_
  refine ev_iconst 2 d_La_law_708 (by decide) ?_
  refine ev_iadd d_La_law_709 ?_
  refine ev_iald d_La_law_710 ha1 hi5 ?_
  refine ev_aload_n d_La_law_711 rfl rfl ?_
  refine ev_iload d_La_law_712 rfl ?_
  refine ev_iconst 3 d_La_law_714 (by decide) ?_
  refine ev_iadd d_La_law_715 ?_
  refine ev_iald d_La_law_716 ha1 hi6 ?_
  exact ev_call (M' := m_La_spoil) (As := [.ref a1, .int (f3 (x4 + 1).toNatClampNeg), .int (f3 (x4 + 2).toNatClampNeg), .int (f3 (x4 + 3).toNatClampNeg)]) (st := st) d_La_law_717 i_La_spoil (fun h => absurd h (by decide +kernel)) cw_La_125 rfl rfl trivial rfl (Nat.le_of_ble_eq_true rfl) h8 k
theorem t_La_law_720 {d : Nat} {st : List Value} {a0 : Nat} {o1 : Option Value} {a2 : Nat} {o3 : Option Value} {x4 : Int32} {o5 : Option Value} {o6 : Option Value} {y0 : Int32} {n3 : Nat} {f4 : Nat → Int32} {fsb : List Value} {w : qk_W} {nc ns : Nat} {Q : Option Value ⊕ Nat → qk_W → Nat → Nat → Prop}  (hc1 : qk_c2 [some (.ref a0), o1, some (.ref a2), o3, some (.int x4), o5, o6] 5 = true) (ha2 : wi w a0 n3 f4) (hi5 : vp_in (x4 + 1) n3) (hi6 : vp_in (x4 + 2) n3) (hi7 : vp_in (x4 + 3) n3) (hb : wo w a2 11 fsb) (h8 : (st.map fun v => Value.category v).sum ≤ 8) (k : Ev d m_Mo_spoil 0 [some (.ref a2), some (.int (f4 (x4 + 1).toNatClampNeg)), some (.int (f4 (x4 + 2).toNatClampNeg)), some (.int (f4 (x4 + 3).toNatClampNeg))] [] w nc ns (fun r w1 nc1 ns1 => match r with | .inl v => Ev (d + 1) m_La_law 744 [some (.ref a0), o1, some (.ref a2), o3, some (.int x4), some (.int y0), o6] (v.toList ++ st) w1 nc1 ns1 Q | .inr x => Q (.inr x) w1 nc1 ns1)) : Ev (d + 1) m_La_law 720 [some (.ref a0), o1, some (.ref a2), o3, some (.int x4), o5, o6] (.int y0 :: st) w nc ns Q := by
  refine ev_istore d_La_law_720 (by decide) hc1 ?_
  refine ev_aload_n d_La_law_722 rfl rfl ?_
  refine ev_aload_n d_La_law_723 rfl rfl ?_
  refine ev_iload d_La_law_724 rfl ?_
  refine ev_iconst 1 d_La_law_726 (by decide) ?_
  refine ev_iadd d_La_law_727 ?_
  refine ev_iald d_La_law_728 ha2 hi5 ?_
  refine ev_aload_n d_La_law_729 rfl rfl ?_
  refine ev_iload d_La_law_730 rfl ?_
  refine ev_iconst 2 d_La_law_732 (by decide) ?_
  refine ev_iadd d_La_law_733 ?_
  refine ev_iald d_La_law_734 ha2 hi6 ?_
  refine ev_aload_n d_La_law_735 rfl rfl ?_
  refine ev_iload d_La_law_736 rfl ?_
  refine ev_iconst 3 d_La_law_738 (by decide) ?_
  refine ev_iadd d_La_law_739 ?_
  refine ev_iald d_La_law_740 ha2 hi7 ?_
  exact ev_call (M' := m_Mo_spoil) (As := [.ref a2, .int (f4 (x4 + 1).toNatClampNeg), .int (f4 (x4 + 2).toNatClampNeg), .int (f4 (x4 + 3).toNatClampNeg)]) (st := st) d_La_law_741 i_Mo_spoil (fun h => absurd h (by decide +kernel)) cw_La_128 rfl rfl ⟨hb.1, 11, _, _, hb.2, rfl, rfl⟩ rfl (Nat.le_of_ble_eq_true rfl) h8 k
theorem t_La_law_744 {d : Nat} {st : List Value} {o0 : Option Value} {o1 : Option Value} {a2 : Nat} {o3 : Option Value} {o4 : Option Value} {o5 : Option Value} {o6 : Option Value} {fsb : List Value} {w : qk_W} {nc ns : Nat} {Q : Option Value ⊕ Nat → qk_W → Nat → Nat → Prop}  (hb : wo w a2 11 fsb) (h8 : (st.map fun v => Value.category v).sum ≤ 8) (k : Ev d m_Mo_thrown 0 [some (.ref a2)] [] w nc ns (fun r w1 nc1 ns1 => match r with | .inl v => Ev (d + 1) m_La_law 748 [o0, o1, some (.ref a2), o3, o4, o5, o6] (v.toList ++ st) w1 nc1 ns1 Q | .inr x => Q (.inr x) w1 nc1 ns1)) : Ev (d + 1) m_La_law 744 [o0, o1, some (.ref a2), o3, o4, o5, o6] st w nc ns Q := by
  refine ev_aload_n d_La_law_744 rfl rfl ?_
  exact ev_call (M' := m_Mo_thrown) (As := [.ref a2]) (st := st) d_La_law_745 i_Mo_thrown (fun h => absurd h (by decide +kernel)) cw_La_86 rfl rfl ⟨hb.1, 11, _, _, hb.2, rfl, rfl⟩ rfl (Nat.le_of_ble_eq_true rfl) h8 k
theorem t_La_law_748 {d : Nat} {st : List Value} {o0 : Option Value} {o1 : Option Value} {o2 : Option Value} {o3 : Option Value} {o4 : Option Value} {x5 : Int32} {o6 : Option Value} {y0 : Int32} {w : qk_W} {nc ns : Nat} {Q : Option Value ⊕ Nat → qk_W → Nat → Nat → Prop}   (kt : y0 = x5 → Ev d m_La_law 755 [o0, o1, o2, o3, o4, some (.int x5), o6] st w nc ns Q) (kf : ¬ (y0 = x5) → Ev d m_La_law 753 [o0, o1, o2, o3, o4, some (.int x5), o6] st w nc ns Q) : Ev d m_La_law 748 [o0, o1, o2, o3, o4, some (.int x5), o6] (.int y0 :: st) w nc ns Q := by
  refine ev_iload d_La_law_748 rfl ?_
  exact ev_icmp_eq 755 d_La_law_750 (by decide) kt kf
theorem t_La_law_753 {d : Nat} {o0 : Option Value} {o1 : Option Value} {o2 : Option Value} {o3 : Option Value} {o4 : Option Value} {o5 : Option Value} {o6 : Option Value} {w : qk_W} {nc ns : Nat} {Q : Option Value ⊕ Nat → qk_W → Nat → Nat → Prop}   (hq : Q (.inl (some (.int 0))) w nc ns) : Ev d m_La_law 753 [o0, o1, o2, o3, o4, o5, o6] [] w nc ns Q := by
  refine ev_iconst 0 d_La_law_753 (by decide) ?_
  exact ev_iret d_La_law_754 rfl rfl hq
theorem t_La_law_755 {d : Nat} {st : List Value} {o0 : Option Value} {o1 : Option Value} {o2 : Option Value} {o3 : Option Value} {x4 : Int32} {o5 : Option Value} {o6 : Option Value} {w : qk_W} {nc ns : Nat} {Q : Option Value ⊕ Nat → qk_W → Nat → Nat → Prop}  (hc1 : qk_c2 [o0, o1, o2, o3, some (.int x4), o5, o6] 4 = true) (k : Ev d m_La_law 23 [o0, o1, o2, o3, some (.int (x4 + 6)), o5, o6] st w nc ns Q) : Ev d m_La_law 755 [o0, o1, o2, o3, some (.int x4), o5, o6] st w nc ns Q := by
  refine ev_goto 1281 d_La_law_755 (by decide) ?_
  refine ev_iinc 6 d_La_law_1281 (by decide) rfl (by decide) hc1 ?_
  refine ev_goto 23 d_La_law_1284 (by decide) ?_
  exact k
theorem t_La_law_758 {d : Nat} {st : List Value} {a0 : Nat} {a1 : Nat} {o2 : Option Value} {o3 : Option Value} {x4 : Int32} {o5 : Option Value} {o6 : Option Value} {n2 : Nat} {f3 : Nat → Int32} {w : qk_W} {nc ns : Nat} {Q : Option Value ⊕ Nat → qk_W → Nat → Nat → Prop}  (ha1 : wi w a0 n2 f3) (hi4 : vp_in (x4 + 1) n2) (h8 : (st.map fun v => Value.category v).sum ≤ 8) (k : Ev d m_La_mend 0 [some (.ref a1), some (.int (f3 (x4 + 1).toNatClampNeg)), none] [] w nc ns (fun r w1 nc1 ns1 => match r with | .inl v => Ev (d + 1) m_La_law 768 [some (.ref a0), some (.ref a1), o2, o3, some (.int x4), o5, o6] (v.toList ++ st) w1 nc1 ns1 Q | .inr x => Q (.inr x) w1 nc1 ns1)) : Ev (d + 1) m_La_law 758 [some (.ref a0), some (.ref a1), o2, o3, some (.int x4), o5, o6] st w nc ns Q := by
  refine ev_aload_n d_La_law_758 rfl rfl ?_
  refine ev_aload_n d_La_law_759 rfl rfl ?_
  refine ev_iload d_La_law_760 rfl ?_
  refine ev_iconst 1 d_La_law_762 (by decide) ?_
  refine ev_iadd d_La_law_763 ?_
  refine ev_iald d_La_law_764 ha1 hi4 ?_
  exact ev_call (M' := m_La_mend) (As := [.ref a1, .int (f3 (x4 + 1).toNatClampNeg)]) (st := st) d_La_law_765 i_La_mend (fun h => absurd h (by decide +kernel)) cw_La_129 rfl rfl trivial rfl (Nat.le_of_ble_eq_true rfl) h8 k
theorem t_La_law_768 {d : Nat} {st : List Value} {a0 : Nat} {o1 : Option Value} {a2 : Nat} {o3 : Option Value} {x4 : Int32} {o5 : Option Value} {o6 : Option Value} {y0 : Int32} {n3 : Nat} {f4 : Nat → Int32} {fsb : List Value} {w : qk_W} {nc ns : Nat} {Q : Option Value ⊕ Nat → qk_W → Nat → Nat → Prop}  (hc1 : qk_c2 [some (.ref a0), o1, some (.ref a2), o3, some (.int x4), o5, o6] 5 = true) (ha2 : wi w a0 n3 f4) (hi5 : vp_in (x4 + 1) n3) (hb : wo w a2 11 fsb) (h8 : (st.map fun v => Value.category v).sum ≤ 8) (k : Ev d m_Mo_mend 0 [some (.ref a2), some (.int (f4 (x4 + 1).toNatClampNeg)), none, none, none] [] w nc ns (fun r w1 nc1 ns1 => match r with | .inl v => Ev (d + 1) m_La_law 780 [some (.ref a0), o1, some (.ref a2), o3, some (.int x4), some (.int y0), o6] (v.toList ++ st) w1 nc1 ns1 Q | .inr x => Q (.inr x) w1 nc1 ns1)) : Ev (d + 1) m_La_law 768 [some (.ref a0), o1, some (.ref a2), o3, some (.int x4), o5, o6] (.int y0 :: st) w nc ns Q := by
  refine ev_istore d_La_law_768 (by decide) hc1 ?_
  refine ev_aload_n d_La_law_770 rfl rfl ?_
  refine ev_aload_n d_La_law_771 rfl rfl ?_
  refine ev_iload d_La_law_772 rfl ?_
  refine ev_iconst 1 d_La_law_774 (by decide) ?_
  refine ev_iadd d_La_law_775 ?_
  refine ev_iald d_La_law_776 ha2 hi5 ?_
  exact ev_call (M' := m_Mo_mend) (As := [.ref a2, .int (f4 (x4 + 1).toNatClampNeg)]) (st := st) d_La_law_777 i_Mo_mend (fun h => absurd h (by decide +kernel)) cw_La_131 rfl rfl ⟨hb.1, 11, _, _, hb.2, rfl, rfl⟩ rfl (Nat.le_of_ble_eq_true rfl) h8 k
theorem t_La_law_780 {d : Nat} {st : List Value} {o0 : Option Value} {o1 : Option Value} {a2 : Nat} {o3 : Option Value} {o4 : Option Value} {o5 : Option Value} {o6 : Option Value} {fsb : List Value} {w : qk_W} {nc ns : Nat} {Q : Option Value ⊕ Nat → qk_W → Nat → Nat → Prop}  (hb : wo w a2 11 fsb) (h8 : (st.map fun v => Value.category v).sum ≤ 8) (k : Ev d m_Mo_thrown 0 [some (.ref a2)] [] w nc ns (fun r w1 nc1 ns1 => match r with | .inl v => Ev (d + 1) m_La_law 784 [o0, o1, some (.ref a2), o3, o4, o5, o6] (v.toList ++ st) w1 nc1 ns1 Q | .inr x => Q (.inr x) w1 nc1 ns1)) : Ev (d + 1) m_La_law 780 [o0, o1, some (.ref a2), o3, o4, o5, o6] st w nc ns Q := by
  refine ev_aload_n d_La_law_780 rfl rfl ?_
  exact ev_call (M' := m_Mo_thrown) (As := [.ref a2]) (st := st) d_La_law_781 i_Mo_thrown (fun h => absurd h (by decide +kernel)) cw_La_86 rfl rfl ⟨hb.1, 11, _, _, hb.2, rfl, rfl⟩ rfl (Nat.le_of_ble_eq_true rfl) h8 k
theorem t_La_law_784 {d : Nat} {st : List Value} {o0 : Option Value} {o1 : Option Value} {o2 : Option Value} {o3 : Option Value} {o4 : Option Value} {x5 : Int32} {o6 : Option Value} {y0 : Int32} {w : qk_W} {nc ns : Nat} {Q : Option Value ⊕ Nat → qk_W → Nat → Nat → Prop}   (kt : y0 = x5 → Ev d m_La_law 791 [o0, o1, o2, o3, o4, some (.int x5), o6] st w nc ns Q) (kf : ¬ (y0 = x5) → Ev d m_La_law 789 [o0, o1, o2, o3, o4, some (.int x5), o6] st w nc ns Q) : Ev d m_La_law 784 [o0, o1, o2, o3, o4, some (.int x5), o6] (.int y0 :: st) w nc ns Q := by
  refine ev_iload d_La_law_784 rfl ?_
  exact ev_icmp_eq 791 d_La_law_786 (by decide) kt kf
theorem t_La_law_789 {d : Nat} {o0 : Option Value} {o1 : Option Value} {o2 : Option Value} {o3 : Option Value} {o4 : Option Value} {o5 : Option Value} {o6 : Option Value} {w : qk_W} {nc ns : Nat} {Q : Option Value ⊕ Nat → qk_W → Nat → Nat → Prop}   (hq : Q (.inl (some (.int 0))) w nc ns) : Ev d m_La_law 789 [o0, o1, o2, o3, o4, o5, o6] [] w nc ns Q := by
  refine ev_iconst 0 d_La_law_789 (by decide) ?_
  exact ev_iret d_La_law_790 rfl rfl hq
theorem t_La_law_791 {d : Nat} {st : List Value} {o0 : Option Value} {o1 : Option Value} {o2 : Option Value} {o3 : Option Value} {x4 : Int32} {o5 : Option Value} {o6 : Option Value} {w : qk_W} {nc ns : Nat} {Q : Option Value ⊕ Nat → qk_W → Nat → Nat → Prop}  (hc1 : qk_c2 [o0, o1, o2, o3, some (.int x4), o5, o6] 4 = true) (k : Ev d m_La_law 23 [o0, o1, o2, o3, some (.int (x4 + 6)), o5, o6] st w nc ns Q) : Ev d m_La_law 791 [o0, o1, o2, o3, some (.int x4), o5, o6] st w nc ns Q := by
  refine ev_goto 1281 d_La_law_791 (by decide) ?_
  refine ev_iinc 6 d_La_law_1281 (by decide) rfl (by decide) hc1 ?_
  refine ev_goto 23 d_La_law_1284 (by decide) ?_
  exact k
theorem t_La_law_794 {d : Nat} {st : List Value} {a0 : Nat} {a1 : Nat} {o2 : Option Value} {a3 : Nat} {x4 : Int32} {o5 : Option Value} {o6 : Option Value} {n2 : Nat} {f3 : Nat → Int32} {w : qk_W} {nc ns : Nat} {Q : Option Value ⊕ Nat → qk_W → Nat → Nat → Prop}  (ha1 : wi w a0 n2 f3) (hi4 : vp_in (x4 + 1) n2) (hi5 : vp_in (x4 + 2) n2) (h8 : (st.map fun v => Value.category v).sum ≤ 8) (k : Ev d m_La_has 0 [some (.ref a1), some (.int (f3 (x4 + 1).toNatClampNeg)), some (.int (f3 (x4 + 2).toNatClampNeg)), some (.ref a3), none] [] w nc ns (fun r w1 nc1 ns1 => match r with | .inl v => Ev (d + 1) m_La_law 811 [some (.ref a0), some (.ref a1), o2, some (.ref a3), some (.int x4), o5, o6] (v.toList ++ st) w1 nc1 ns1 Q | .inr x => Q (.inr x) w1 nc1 ns1)) : Ev (d + 1) m_La_law 794 [some (.ref a0), some (.ref a1), o2, some (.ref a3), some (.int x4), o5, o6] st w nc ns Q := by
  refine ev_aload_n d_La_law_794 rfl rfl ?_
  refine ev_aload_n d_La_law_795 rfl rfl ?_
  refine ev_iload d_La_law_796 rfl ?_
  refine ev_iconst 1 d_La_law_798 (by decide) ?_
  refine ev_iadd d_La_law_799 ?_
  refine ev_iald d_La_law_800 ha1 hi4 ?_
  refine ev_aload_n d_La_law_801 rfl rfl ?_
  refine ev_iload d_La_law_802 rfl ?_
  refine ev_iconst 2 d_La_law_804 (by decide) ?_
  refine ev_iadd d_La_law_805 ?_
  refine ev_iald d_La_law_806 ha1 hi5 ?_
  refine ev_aload_n d_La_law_807 rfl rfl ?_
  exact ev_call (M' := m_La_has) (As := [.ref a1, .int (f3 (x4 + 1).toNatClampNeg), .int (f3 (x4 + 2).toNatClampNeg), .ref a3]) (st := st) d_La_law_808 i_La_has (fun h => absurd h (by decide +kernel)) cw_La_132 rfl rfl trivial rfl (Nat.le_of_ble_eq_true rfl) h8 k
theorem t_La_law_811 {d : Nat} {st : List Value} {a0 : Nat} {o1 : Option Value} {a2 : Nat} {o3 : Option Value} {x4 : Int32} {o5 : Option Value} {o6 : Option Value} {y0 : Int32} {n3 : Nat} {f4 : Nat → Int32} {fsb : List Value} {w : qk_W} {nc ns : Nat} {Q : Option Value ⊕ Nat → qk_W → Nat → Nat → Prop}  (hc1 : qk_c2 [some (.ref a0), o1, some (.ref a2), o3, some (.int x4), o5, o6] 5 = true) (ha2 : wi w a0 n3 f4) (hi5 : vp_in (x4 + 1) n3) (hi6 : vp_in (x4 + 2) n3) (hb : wo w a2 11 fsb) (h8 : (st.map fun v => Value.category v).sum ≤ 8) (k : Ev d m_Mo_has 0 [some (.ref a2), some (.int (f4 (x4 + 1).toNatClampNeg)), some (.int (f4 (x4 + 2).toNatClampNeg))] [] w nc ns (fun r w1 nc1 ns1 => match r with | .inl v => Ev (d + 1) m_La_law 829 [some (.ref a0), o1, some (.ref a2), o3, some (.int x4), some (.int y0), o6] (v.toList ++ st) w1 nc1 ns1 Q | .inr x => Q (.inr x) w1 nc1 ns1)) : Ev (d + 1) m_La_law 811 [some (.ref a0), o1, some (.ref a2), o3, some (.int x4), o5, o6] (.int y0 :: st) w nc ns Q := by
  refine ev_istore d_La_law_811 (by decide) hc1 ?_
  refine ev_aload_n d_La_law_813 rfl rfl ?_
  refine ev_aload_n d_La_law_814 rfl rfl ?_
  refine ev_iload d_La_law_815 rfl ?_
  refine ev_iconst 1 d_La_law_817 (by decide) ?_
  refine ev_iadd d_La_law_818 ?_
  refine ev_iald d_La_law_819 ha2 hi5 ?_
  refine ev_aload_n d_La_law_820 rfl rfl ?_
  refine ev_iload d_La_law_821 rfl ?_
  refine ev_iconst 2 d_La_law_823 (by decide) ?_
  refine ev_iadd d_La_law_824 ?_
  refine ev_iald d_La_law_825 ha2 hi6 ?_
  exact ev_call (M' := m_Mo_has) (As := [.ref a2, .int (f4 (x4 + 1).toNatClampNeg), .int (f4 (x4 + 2).toNatClampNeg)]) (st := st) d_La_law_826 i_Mo_has (fun h => absurd h (by decide +kernel)) cw_La_134 rfl rfl ⟨hb.1, 11, _, _, hb.2, rfl, rfl⟩ rfl (Nat.le_of_ble_eq_true rfl) h8 k
theorem t_La_law_829 {d : Nat} {st : List Value} {o0 : Option Value} {o1 : Option Value} {a2 : Nat} {o3 : Option Value} {o4 : Option Value} {o5 : Option Value} {o6 : Option Value} {y0 : Int32} {fsb : List Value} {w : qk_W} {nc ns : Nat} {Q : Option Value ⊕ Nat → qk_W → Nat → Nat → Prop}  (hc1 : qk_c2 [o0, o1, some (.ref a2), o3, o4, o5, o6] 6 = true) (hb : wo w a2 11 fsb) (h8 : (st.map fun v => Value.category v).sum ≤ 8) (k : Ev d m_Mo_thrown 0 [some (.ref a2)] [] w nc ns (fun r w1 nc1 ns1 => match r with | .inl v => Ev (d + 1) m_La_law 835 [o0, o1, some (.ref a2), o3, o4, o5, some (.int y0)] (v.toList ++ st) w1 nc1 ns1 Q | .inr x => Q (.inr x) w1 nc1 ns1)) : Ev (d + 1) m_La_law 829 [o0, o1, some (.ref a2), o3, o4, o5, o6] (.int y0 :: st) w nc ns Q := by
  refine ev_istore d_La_law_829 (by decide) hc1 ?_
  refine ev_aload_n d_La_law_831 rfl rfl ?_
  exact ev_call (M' := m_Mo_thrown) (As := [.ref a2]) (st := st) d_La_law_832 i_Mo_thrown (fun h => absurd h (by decide +kernel)) cw_La_86 rfl rfl ⟨hb.1, 11, _, _, hb.2, rfl, rfl⟩ rfl (Nat.le_of_ble_eq_true rfl) h8 k
theorem t_La_law_835 {d : Nat} {st : List Value} {o0 : Option Value} {o1 : Option Value} {o2 : Option Value} {o3 : Option Value} {o4 : Option Value} {x5 : Int32} {o6 : Option Value} {y0 : Int32} {w : qk_W} {nc ns : Nat} {Q : Option Value ⊕ Nat → qk_W → Nat → Nat → Prop}   (kt : y0 = x5 → Ev d m_La_law 842 [o0, o1, o2, o3, o4, some (.int x5), o6] st w nc ns Q) (kf : ¬ (y0 = x5) → Ev d m_La_law 840 [o0, o1, o2, o3, o4, some (.int x5), o6] st w nc ns Q) : Ev d m_La_law 835 [o0, o1, o2, o3, o4, some (.int x5), o6] (.int y0 :: st) w nc ns Q := by
  refine ev_iload d_La_law_835 rfl ?_
  exact ev_icmp_eq 842 d_La_law_837 (by decide) kt kf
theorem t_La_law_840 {d : Nat} {o0 : Option Value} {o1 : Option Value} {o2 : Option Value} {o3 : Option Value} {o4 : Option Value} {o5 : Option Value} {o6 : Option Value} {w : qk_W} {nc ns : Nat} {Q : Option Value ⊕ Nat → qk_W → Nat → Nat → Prop}   (hq : Q (.inl (some (.int 0))) w nc ns) : Ev d m_La_law 840 [o0, o1, o2, o3, o4, o5, o6] [] w nc ns Q := by
  refine ev_iconst 0 d_La_law_840 (by decide) ?_
  exact ev_iret d_La_law_841 rfl rfl hq
theorem t_La_law_842 {d : Nat} {st : List Value} {o0 : Option Value} {o1 : Option Value} {o2 : Option Value} {o3 : Option Value} {o4 : Option Value} {x5 : Int32} {o6 : Option Value} {w : qk_W} {nc ns : Nat} {Q : Option Value ⊕ Nat → qk_W → Nat → Nat → Prop}   (kt : ¬ x5 = 0 → Ev d m_La_law 866 [o0, o1, o2, o3, o4, some (.int x5), o6] st w nc ns Q) (kf : x5 = 0 → Ev d m_La_law 847 [o0, o1, o2, o3, o4, some (.int x5), o6] st w nc ns Q) : Ev d m_La_law 842 [o0, o1, o2, o3, o4, some (.int x5), o6] st w nc ns Q := by
  refine ev_iload d_La_law_842 rfl ?_
  exact ev_if_ne 866 d_La_law_844 (by decide) kt kf
theorem t_La_law_847 {d : Nat} {st : List Value} {o0 : Option Value} {o1 : Option Value} {o2 : Option Value} {a3 : Nat} {o4 : Option Value} {o5 : Option Value} {x6 : Int32} {n2 : Nat} {f3 : Nat → Int64} {w : qk_W} {nc ns : Nat} {Q : Option Value ⊕ Nat → qk_W → Nat → Nat → Prop}  (ha1 : wl w a3 n2 f3) (hi4 : vp_in 0 n2) (kt : x6 = 0 → Ev d m_La_law 859 [o0, o1, o2, some (.ref a3), o4, o5, some (.int x6)] (.long (f3 (0 : Int32).toNatClampNeg) :: st) w nc ns Q) (kf : ¬ (x6 = 0) → Ev d m_La_law 855 [o0, o1, o2, some (.ref a3), o4, o5, some (.int x6)] (.long (f3 (0 : Int32).toNatClampNeg) :: st) w nc ns Q) : Ev d m_La_law 847 [o0, o1, o2, some (.ref a3), o4, o5, some (.int x6)] st w nc ns Q := by
  refine ev_aload_n d_La_law_847 rfl rfl ?_
  refine ev_iconst 0 d_La_law_848 (by decide) ?_
  refine ev_lald d_La_law_849 ha1.1 ha1.2 hi4 ?_
  refine ev_iload d_La_law_850 rfl ?_
  exact ev_if_eq 859 d_La_law_852 (by decide) kt kf
theorem t_La_law_855 {d : Nat} {st : List Value} {o0 : Option Value} {o1 : Option Value} {o2 : Option Value} {o3 : Option Value} {o4 : Option Value} {o5 : Option Value} {o6 : Option Value} {y0 : Int64} {w : qk_W} {nc ns : Nat} {Q : Option Value ⊕ Nat → qk_W → Nat → Nat → Prop}   (kt : (lg_cmp y0 1) = 0 → Ev d m_La_law 866 [o0, o1, o2, o3, o4, o5, o6] st w nc ns Q) (kf : ¬ ((lg_cmp y0 1) = 0) → Ev d m_La_law 864 [o0, o1, o2, o3, o4, o5, o6] st w nc ns Q) : Ev d m_La_law 855 [o0, o1, o2, o3, o4, o5, o6] (.long y0 :: st) w nc ns Q := by
  refine ev_lconst 1 d_La_law_855 (by decide) ?_
  refine ev_goto 860 d_La_law_856 (by decide) ?_
  refine ev_lcmp d_La_law_860 ?_
  exact ev_if_eq 866 d_La_law_861 (by decide) kt kf
theorem t_La_law_859 {d : Nat} {st : List Value} {o0 : Option Value} {o1 : Option Value} {o2 : Option Value} {o3 : Option Value} {o4 : Option Value} {o5 : Option Value} {o6 : Option Value} {y0 : Int64} {w : qk_W} {nc ns : Nat} {Q : Option Value ⊕ Nat → qk_W → Nat → Nat → Prop}   (kt : (lg_cmp y0 0) = 0 → Ev d m_La_law 866 [o0, o1, o2, o3, o4, o5, o6] st w nc ns Q) (kf : ¬ ((lg_cmp y0 0) = 0) → Ev d m_La_law 864 [o0, o1, o2, o3, o4, o5, o6] st w nc ns Q) : Ev d m_La_law 859 [o0, o1, o2, o3, o4, o5, o6] (.long y0 :: st) w nc ns Q := by
  refine ev_lconst 0 d_La_law_859 (by decide) ?_
  refine ev_lcmp d_La_law_860 ?_
  exact ev_if_eq 866 d_La_law_861 (by decide) kt kf
theorem t_La_law_864 {d : Nat} {o0 : Option Value} {o1 : Option Value} {o2 : Option Value} {o3 : Option Value} {o4 : Option Value} {o5 : Option Value} {o6 : Option Value} {w : qk_W} {nc ns : Nat} {Q : Option Value ⊕ Nat → qk_W → Nat → Nat → Prop}   (hq : Q (.inl (some (.int 0))) w nc ns) : Ev d m_La_law 864 [o0, o1, o2, o3, o4, o5, o6] [] w nc ns Q := by
  refine ev_iconst 0 d_La_law_864 (by decide) ?_
  exact ev_iret d_La_law_865 rfl rfl hq
theorem t_La_law_866 {d : Nat} {st : List Value} {o0 : Option Value} {o1 : Option Value} {o2 : Option Value} {o3 : Option Value} {x4 : Int32} {o5 : Option Value} {o6 : Option Value} {w : qk_W} {nc ns : Nat} {Q : Option Value ⊕ Nat → qk_W → Nat → Nat → Prop}  (hc1 : qk_c2 [o0, o1, o2, o3, some (.int x4), o5, o6] 4 = true) (k : Ev d m_La_law 23 [o0, o1, o2, o3, some (.int (x4 + 6)), o5, o6] st w nc ns Q) : Ev d m_La_law 866 [o0, o1, o2, o3, some (.int x4), o5, o6] st w nc ns Q := by
  refine ev_goto 1281 d_La_law_866 (by decide) ?_
  refine ev_iinc 6 d_La_law_1281 (by decide) rfl (by decide) hc1 ?_
  refine ev_goto 23 d_La_law_1284 (by decide) ?_
  exact k
theorem t_La_law_869 {d : Nat} {st : List Value} {a0 : Nat} {a1 : Nat} {o2 : Option Value} {a3 : Nat} {x4 : Int32} {o5 : Option Value} {o6 : Option Value} {n2 : Nat} {f3 : Nat → Int32} {w : qk_W} {nc ns : Nat} {Q : Option Value ⊕ Nat → qk_W → Nat → Nat → Prop}  (ha1 : wi w a0 n2 f3) (hi4 : vp_in (x4 + 1) n2) (hi5 : vp_in (x4 + 2) n2) (h8 : (st.map fun v => Value.category v).sum ≤ 8) (k : Ev d m_La_at 0 [some (.ref a1), some (.int (f3 (x4 + 1).toNatClampNeg)), some (.int (f3 (x4 + 2).toNatClampNeg)), some (.ref a3), none] [] w nc ns (fun r w1 nc1 ns1 => match r with | .inl v => Ev (d + 1) m_La_law 886 [some (.ref a0), some (.ref a1), o2, some (.ref a3), some (.int x4), o5, o6] (v.toList ++ st) w1 nc1 ns1 Q | .inr x => Q (.inr x) w1 nc1 ns1)) : Ev (d + 1) m_La_law 869 [some (.ref a0), some (.ref a1), o2, some (.ref a3), some (.int x4), o5, o6] st w nc ns Q := by
  refine ev_aload_n d_La_law_869 rfl rfl ?_
  refine ev_aload_n d_La_law_870 rfl rfl ?_
  refine ev_iload d_La_law_871 rfl ?_
  refine ev_iconst 1 d_La_law_873 (by decide) ?_
  refine ev_iadd d_La_law_874 ?_
  refine ev_iald d_La_law_875 ha1 hi4 ?_
  refine ev_aload_n d_La_law_876 rfl rfl ?_
  refine ev_iload d_La_law_877 rfl ?_
  refine ev_iconst 2 d_La_law_879 (by decide) ?_
  refine ev_iadd d_La_law_880 ?_
  refine ev_iald d_La_law_881 ha1 hi5 ?_
  refine ev_aload_n d_La_law_882 rfl rfl ?_
  exact ev_call (M' := m_La_at) (As := [.ref a1, .int (f3 (x4 + 1).toNatClampNeg), .int (f3 (x4 + 2).toNatClampNeg), .ref a3]) (st := st) d_La_law_883 i_La_at (fun h => absurd h (by decide +kernel)) cw_La_135 rfl rfl trivial rfl (Nat.le_of_ble_eq_true rfl) h8 k
theorem t_La_law_886 {d : Nat} {st : List Value} {a0 : Nat} {o1 : Option Value} {a2 : Nat} {o3 : Option Value} {x4 : Int32} {o5 : Option Value} {o6 : Option Value} {y0 : Int32} {n3 : Nat} {f4 : Nat → Int32} {fsb : List Value} {w : qk_W} {nc ns : Nat} {Q : Option Value ⊕ Nat → qk_W → Nat → Nat → Prop}  (hc1 : qk_c2 [some (.ref a0), o1, some (.ref a2), o3, some (.int x4), o5, o6] 5 = true) (ha2 : wi w a0 n3 f4) (hi5 : vp_in (x4 + 1) n3) (hi6 : vp_in (x4 + 2) n3) (hb : wo w a2 11 fsb) (h8 : (st.map fun v => Value.category v).sum ≤ 8) (k : Ev d m_Mo_at 0 [some (.ref a2), some (.int (f4 (x4 + 1).toNatClampNeg)), some (.int (f4 (x4 + 2).toNatClampNeg))] [] w nc ns (fun r w1 nc1 ns1 => match r with | .inl v => Ev (d + 1) m_La_law 904 [some (.ref a0), o1, some (.ref a2), o3, some (.int x4), some (.int y0), o6] (v.toList ++ st) w1 nc1 ns1 Q | .inr x => Q (.inr x) w1 nc1 ns1)) : Ev (d + 1) m_La_law 886 [some (.ref a0), o1, some (.ref a2), o3, some (.int x4), o5, o6] (.int y0 :: st) w nc ns Q := by
  refine ev_istore d_La_law_886 (by decide) hc1 ?_
  refine ev_aload_n d_La_law_888 rfl rfl ?_
  refine ev_aload_n d_La_law_889 rfl rfl ?_
  refine ev_iload d_La_law_890 rfl ?_
  refine ev_iconst 1 d_La_law_892 (by decide) ?_
  refine ev_iadd d_La_law_893 ?_
  refine ev_iald d_La_law_894 ha2 hi5 ?_
  refine ev_aload_n d_La_law_895 rfl rfl ?_
  refine ev_iload d_La_law_896 rfl ?_
  refine ev_iconst 2 d_La_law_898 (by decide) ?_
  refine ev_iadd d_La_law_899 ?_
  refine ev_iald d_La_law_900 ha2 hi6 ?_
  exact ev_call (M' := m_Mo_at) (As := [.ref a2, .int (f4 (x4 + 1).toNatClampNeg), .int (f4 (x4 + 2).toNatClampNeg)]) (st := st) d_La_law_901 i_Mo_at (fun h => absurd h (by decide +kernel)) cw_La_137 rfl rfl ⟨hb.1, 11, _, _, hb.2, rfl, rfl⟩ rfl (Nat.le_of_ble_eq_true rfl) h8 k
theorem t_La_law_904 {d : Nat} {st : List Value} {o0 : Option Value} {o1 : Option Value} {a2 : Nat} {o3 : Option Value} {o4 : Option Value} {o5 : Option Value} {o6 : Option Value} {y0 : Int32} {fsb : List Value} {w : qk_W} {nc ns : Nat} {Q : Option Value ⊕ Nat → qk_W → Nat → Nat → Prop}  (hc1 : qk_c2 [o0, o1, some (.ref a2), o3, o4, o5, o6] 6 = true) (hb : wo w a2 11 fsb) (h8 : (st.map fun v => Value.category v).sum ≤ 8) (k : Ev d m_Mo_thrown 0 [some (.ref a2)] [] w nc ns (fun r w1 nc1 ns1 => match r with | .inl v => Ev (d + 1) m_La_law 910 [o0, o1, some (.ref a2), o3, o4, o5, some (.int y0)] (v.toList ++ st) w1 nc1 ns1 Q | .inr x => Q (.inr x) w1 nc1 ns1)) : Ev (d + 1) m_La_law 904 [o0, o1, some (.ref a2), o3, o4, o5, o6] (.int y0 :: st) w nc ns Q := by
  refine ev_istore d_La_law_904 (by decide) hc1 ?_
  refine ev_aload_n d_La_law_906 rfl rfl ?_
  exact ev_call (M' := m_Mo_thrown) (As := [.ref a2]) (st := st) d_La_law_907 i_Mo_thrown (fun h => absurd h (by decide +kernel)) cw_La_86 rfl rfl ⟨hb.1, 11, _, _, hb.2, rfl, rfl⟩ rfl (Nat.le_of_ble_eq_true rfl) h8 k
theorem t_La_law_910 {d : Nat} {st : List Value} {o0 : Option Value} {o1 : Option Value} {o2 : Option Value} {o3 : Option Value} {o4 : Option Value} {x5 : Int32} {o6 : Option Value} {y0 : Int32} {w : qk_W} {nc ns : Nat} {Q : Option Value ⊕ Nat → qk_W → Nat → Nat → Prop}   (kt : y0 = x5 → Ev d m_La_law 917 [o0, o1, o2, o3, o4, some (.int x5), o6] st w nc ns Q) (kf : ¬ (y0 = x5) → Ev d m_La_law 915 [o0, o1, o2, o3, o4, some (.int x5), o6] st w nc ns Q) : Ev d m_La_law 910 [o0, o1, o2, o3, o4, some (.int x5), o6] (.int y0 :: st) w nc ns Q := by
  refine ev_iload d_La_law_910 rfl ?_
  exact ev_icmp_eq 917 d_La_law_912 (by decide) kt kf
theorem t_La_law_915 {d : Nat} {o0 : Option Value} {o1 : Option Value} {o2 : Option Value} {o3 : Option Value} {o4 : Option Value} {o5 : Option Value} {o6 : Option Value} {w : qk_W} {nc ns : Nat} {Q : Option Value ⊕ Nat → qk_W → Nat → Nat → Prop}   (hq : Q (.inl (some (.int 0))) w nc ns) : Ev d m_La_law 915 [o0, o1, o2, o3, o4, o5, o6] [] w nc ns Q := by
  refine ev_iconst 0 d_La_law_915 (by decide) ?_
  exact ev_iret d_La_law_916 rfl rfl hq
theorem t_La_law_917 {d : Nat} {st : List Value} {o0 : Option Value} {o1 : Option Value} {o2 : Option Value} {o3 : Option Value} {o4 : Option Value} {x5 : Int32} {o6 : Option Value} {w : qk_W} {nc ns : Nat} {Q : Option Value ⊕ Nat → qk_W → Nat → Nat → Prop}   (kt : ¬ x5 = 0 → Ev d m_La_law 934 [o0, o1, o2, o3, o4, some (.int x5), o6] st w nc ns Q) (kf : x5 = 0 → Ev d m_La_law 922 [o0, o1, o2, o3, o4, some (.int x5), o6] st w nc ns Q) : Ev d m_La_law 917 [o0, o1, o2, o3, o4, some (.int x5), o6] st w nc ns Q := by
  refine ev_iload d_La_law_917 rfl ?_
  exact ev_if_ne 934 d_La_law_919 (by decide) kt kf
theorem t_La_law_922 {d : Nat} {st : List Value} {o0 : Option Value} {o1 : Option Value} {o2 : Option Value} {a3 : Nat} {o4 : Option Value} {o5 : Option Value} {x6 : Int32} {n2 : Nat} {f3 : Nat → Int64} {w : qk_W} {nc ns : Nat} {Q : Option Value ⊕ Nat → qk_W → Nat → Nat → Prop}  (ha1 : wl w a3 n2 f3) (hi4 : vp_in 0 n2) (kt : (lg_cmp (f3 (0 : Int32).toNatClampNeg) (Int32.toInt64 x6)) = 0 → Ev d m_La_law 934 [o0, o1, o2, some (.ref a3), o4, o5, some (.int x6)] st w nc ns Q) (kf : ¬ ((lg_cmp (f3 (0 : Int32).toNatClampNeg) (Int32.toInt64 x6)) = 0) → Ev d m_La_law 932 [o0, o1, o2, some (.ref a3), o4, o5, some (.int x6)] st w nc ns Q) : Ev d m_La_law 922 [o0, o1, o2, some (.ref a3), o4, o5, some (.int x6)] st w nc ns Q := by
  refine ev_aload_n d_La_law_922 rfl rfl ?_
  refine ev_iconst 0 d_La_law_923 (by decide) ?_
  refine ev_lald d_La_law_924 ha1.1 ha1.2 hi4 ?_
  refine ev_iload d_La_law_925 rfl ?_
  refine ev_i2l d_La_law_927 ?_
  refine ev_lcmp d_La_law_928 ?_
  exact ev_if_eq 934 d_La_law_929 (by decide) kt kf
theorem t_La_law_932 {d : Nat} {o0 : Option Value} {o1 : Option Value} {o2 : Option Value} {o3 : Option Value} {o4 : Option Value} {o5 : Option Value} {o6 : Option Value} {w : qk_W} {nc ns : Nat} {Q : Option Value ⊕ Nat → qk_W → Nat → Nat → Prop}   (hq : Q (.inl (some (.int 0))) w nc ns) : Ev d m_La_law 932 [o0, o1, o2, o3, o4, o5, o6] [] w nc ns Q := by
  refine ev_iconst 0 d_La_law_932 (by decide) ?_
  exact ev_iret d_La_law_933 rfl rfl hq
theorem t_La_law_934 {d : Nat} {st : List Value} {o0 : Option Value} {o1 : Option Value} {o2 : Option Value} {o3 : Option Value} {x4 : Int32} {o5 : Option Value} {o6 : Option Value} {w : qk_W} {nc ns : Nat} {Q : Option Value ⊕ Nat → qk_W → Nat → Nat → Prop}  (hc1 : qk_c2 [o0, o1, o2, o3, some (.int x4), o5, o6] 4 = true) (k : Ev d m_La_law 23 [o0, o1, o2, o3, some (.int (x4 + 6)), o5, o6] st w nc ns Q) : Ev d m_La_law 934 [o0, o1, o2, o3, some (.int x4), o5, o6] st w nc ns Q := by
  refine ev_goto 1281 d_La_law_934 (by decide) ?_
  refine ev_iinc 6 d_La_law_1281 (by decide) rfl (by decide) hc1 ?_
  refine ev_goto 23 d_La_law_1284 (by decide) ?_
  exact k
theorem t_La_law_937 {d : Nat} {st : List Value} {a0 : Nat} {a1 : Nat} {o2 : Option Value} {a3 : Nat} {x4 : Int32} {o5 : Option Value} {o6 : Option Value} {n2 : Nat} {f3 : Nat → Int32} {w : qk_W} {nc ns : Nat} {Q : Option Value ⊕ Nat → qk_W → Nat → Nat → Prop}  (ha1 : wi w a0 n2 f3) (hi4 : vp_in (x4 + 1) n2) (hi5 : vp_in (x4 + 2) n2) (h8 : (st.map fun v => Value.category v).sum ≤ 8) (k : Ev d m_La_qualityAt 0 [some (.ref a1), some (.int (f3 (x4 + 1).toNatClampNeg)), some (.int (f3 (x4 + 2).toNatClampNeg)), some (.ref a3), none] [] w nc ns (fun r w1 nc1 ns1 => match r with | .inl v => Ev (d + 1) m_La_law 954 [some (.ref a0), some (.ref a1), o2, some (.ref a3), some (.int x4), o5, o6] (v.toList ++ st) w1 nc1 ns1 Q | .inr x => Q (.inr x) w1 nc1 ns1)) : Ev (d + 1) m_La_law 937 [some (.ref a0), some (.ref a1), o2, some (.ref a3), some (.int x4), o5, o6] st w nc ns Q := by
  refine ev_aload_n d_La_law_937 rfl rfl ?_
  refine ev_aload_n d_La_law_938 rfl rfl ?_
  refine ev_iload d_La_law_939 rfl ?_
  refine ev_iconst 1 d_La_law_941 (by decide) ?_
  refine ev_iadd d_La_law_942 ?_
  refine ev_iald d_La_law_943 ha1 hi4 ?_
  refine ev_aload_n d_La_law_944 rfl rfl ?_
  refine ev_iload d_La_law_945 rfl ?_
  refine ev_iconst 2 d_La_law_947 (by decide) ?_
  refine ev_iadd d_La_law_948 ?_
  refine ev_iald d_La_law_949 ha1 hi5 ?_
  refine ev_aload_n d_La_law_950 rfl rfl ?_
  exact ev_call (M' := m_La_qualityAt) (As := [.ref a1, .int (f3 (x4 + 1).toNatClampNeg), .int (f3 (x4 + 2).toNatClampNeg), .ref a3]) (st := st) d_La_law_951 i_La_qualityAt (fun h => absurd h (by decide +kernel)) cw_La_138 rfl rfl trivial rfl (Nat.le_of_ble_eq_true rfl) h8 k
theorem t_La_law_954 {d : Nat} {st : List Value} {a0 : Nat} {o1 : Option Value} {a2 : Nat} {o3 : Option Value} {x4 : Int32} {o5 : Option Value} {o6 : Option Value} {y0 : Int32} {n3 : Nat} {f4 : Nat → Int32} {fsb : List Value} {w : qk_W} {nc ns : Nat} {Q : Option Value ⊕ Nat → qk_W → Nat → Nat → Prop}  (hc1 : qk_c2 [some (.ref a0), o1, some (.ref a2), o3, some (.int x4), o5, o6] 5 = true) (ha2 : wi w a0 n3 f4) (hi5 : vp_in (x4 + 1) n3) (hi6 : vp_in (x4 + 2) n3) (hb : wo w a2 11 fsb) (h8 : (st.map fun v => Value.category v).sum ≤ 8) (k : Ev d m_Mo_qualityAt 0 [some (.ref a2), some (.int (f4 (x4 + 1).toNatClampNeg)), some (.int (f4 (x4 + 2).toNatClampNeg))] [] w nc ns (fun r w1 nc1 ns1 => match r with | .inl v => Ev (d + 1) m_La_law 972 [some (.ref a0), o1, some (.ref a2), o3, some (.int x4), some (.int y0), o6] (v.toList ++ st) w1 nc1 ns1 Q | .inr x => Q (.inr x) w1 nc1 ns1)) : Ev (d + 1) m_La_law 954 [some (.ref a0), o1, some (.ref a2), o3, some (.int x4), o5, o6] (.int y0 :: st) w nc ns Q := by
  refine ev_istore d_La_law_954 (by decide) hc1 ?_
  refine ev_aload_n d_La_law_956 rfl rfl ?_
  refine ev_aload_n d_La_law_957 rfl rfl ?_
  refine ev_iload d_La_law_958 rfl ?_
  refine ev_iconst 1 d_La_law_960 (by decide) ?_
  refine ev_iadd d_La_law_961 ?_
  refine ev_iald d_La_law_962 ha2 hi5 ?_
  refine ev_aload_n d_La_law_963 rfl rfl ?_
  refine ev_iload d_La_law_964 rfl ?_
  refine ev_iconst 2 d_La_law_966 (by decide) ?_
  refine ev_iadd d_La_law_967 ?_
  refine ev_iald d_La_law_968 ha2 hi6 ?_
  exact ev_call (M' := m_Mo_qualityAt) (As := [.ref a2, .int (f4 (x4 + 1).toNatClampNeg), .int (f4 (x4 + 2).toNatClampNeg)]) (st := st) d_La_law_969 i_Mo_qualityAt (fun h => absurd h (by decide +kernel)) cw_La_140 rfl rfl ⟨hb.1, 11, _, _, hb.2, rfl, rfl⟩ rfl (Nat.le_of_ble_eq_true rfl) h8 k
theorem t_La_law_972 {d : Nat} {st : List Value} {o0 : Option Value} {o1 : Option Value} {a2 : Nat} {o3 : Option Value} {o4 : Option Value} {o5 : Option Value} {o6 : Option Value} {y0 : Int32} {fsb : List Value} {w : qk_W} {nc ns : Nat} {Q : Option Value ⊕ Nat → qk_W → Nat → Nat → Prop}  (hc1 : qk_c2 [o0, o1, some (.ref a2), o3, o4, o5, o6] 6 = true) (hb : wo w a2 11 fsb) (h8 : (st.map fun v => Value.category v).sum ≤ 8) (k : Ev d m_Mo_thrown 0 [some (.ref a2)] [] w nc ns (fun r w1 nc1 ns1 => match r with | .inl v => Ev (d + 1) m_La_law 978 [o0, o1, some (.ref a2), o3, o4, o5, some (.int y0)] (v.toList ++ st) w1 nc1 ns1 Q | .inr x => Q (.inr x) w1 nc1 ns1)) : Ev (d + 1) m_La_law 972 [o0, o1, some (.ref a2), o3, o4, o5, o6] (.int y0 :: st) w nc ns Q := by
  refine ev_istore d_La_law_972 (by decide) hc1 ?_
  refine ev_aload_n d_La_law_974 rfl rfl ?_
  exact ev_call (M' := m_Mo_thrown) (As := [.ref a2]) (st := st) d_La_law_975 i_Mo_thrown (fun h => absurd h (by decide +kernel)) cw_La_86 rfl rfl ⟨hb.1, 11, _, _, hb.2, rfl, rfl⟩ rfl (Nat.le_of_ble_eq_true rfl) h8 k
theorem t_La_law_978 {d : Nat} {st : List Value} {o0 : Option Value} {o1 : Option Value} {o2 : Option Value} {o3 : Option Value} {o4 : Option Value} {x5 : Int32} {o6 : Option Value} {y0 : Int32} {w : qk_W} {nc ns : Nat} {Q : Option Value ⊕ Nat → qk_W → Nat → Nat → Prop}   (kt : y0 = x5 → Ev d m_La_law 985 [o0, o1, o2, o3, o4, some (.int x5), o6] st w nc ns Q) (kf : ¬ (y0 = x5) → Ev d m_La_law 983 [o0, o1, o2, o3, o4, some (.int x5), o6] st w nc ns Q) : Ev d m_La_law 978 [o0, o1, o2, o3, o4, some (.int x5), o6] (.int y0 :: st) w nc ns Q := by
  refine ev_iload d_La_law_978 rfl ?_
  exact ev_icmp_eq 985 d_La_law_980 (by decide) kt kf
theorem t_La_law_983 {d : Nat} {o0 : Option Value} {o1 : Option Value} {o2 : Option Value} {o3 : Option Value} {o4 : Option Value} {o5 : Option Value} {o6 : Option Value} {w : qk_W} {nc ns : Nat} {Q : Option Value ⊕ Nat → qk_W → Nat → Nat → Prop}   (hq : Q (.inl (some (.int 0))) w nc ns) : Ev d m_La_law 983 [o0, o1, o2, o3, o4, o5, o6] [] w nc ns Q := by
  refine ev_iconst 0 d_La_law_983 (by decide) ?_
  exact ev_iret d_La_law_984 rfl rfl hq
theorem t_La_law_985 {d : Nat} {st : List Value} {o0 : Option Value} {o1 : Option Value} {o2 : Option Value} {o3 : Option Value} {o4 : Option Value} {x5 : Int32} {o6 : Option Value} {w : qk_W} {nc ns : Nat} {Q : Option Value ⊕ Nat → qk_W → Nat → Nat → Prop}   (kt : ¬ x5 = 0 → Ev d m_La_law 1002 [o0, o1, o2, o3, o4, some (.int x5), o6] st w nc ns Q) (kf : x5 = 0 → Ev d m_La_law 990 [o0, o1, o2, o3, o4, some (.int x5), o6] st w nc ns Q) : Ev d m_La_law 985 [o0, o1, o2, o3, o4, some (.int x5), o6] st w nc ns Q := by
  refine ev_iload d_La_law_985 rfl ?_
  exact ev_if_ne 1002 d_La_law_987 (by decide) kt kf
theorem t_La_law_990 {d : Nat} {st : List Value} {o0 : Option Value} {o1 : Option Value} {o2 : Option Value} {a3 : Nat} {o4 : Option Value} {o5 : Option Value} {x6 : Int32} {n2 : Nat} {f3 : Nat → Int64} {w : qk_W} {nc ns : Nat} {Q : Option Value ⊕ Nat → qk_W → Nat → Nat → Prop}  (ha1 : wl w a3 n2 f3) (hi4 : vp_in 0 n2) (kt : (lg_cmp (f3 (0 : Int32).toNatClampNeg) (Int32.toInt64 x6)) = 0 → Ev d m_La_law 1002 [o0, o1, o2, some (.ref a3), o4, o5, some (.int x6)] st w nc ns Q) (kf : ¬ ((lg_cmp (f3 (0 : Int32).toNatClampNeg) (Int32.toInt64 x6)) = 0) → Ev d m_La_law 1000 [o0, o1, o2, some (.ref a3), o4, o5, some (.int x6)] st w nc ns Q) : Ev d m_La_law 990 [o0, o1, o2, some (.ref a3), o4, o5, some (.int x6)] st w nc ns Q := by
  refine ev_aload_n d_La_law_990 rfl rfl ?_
  refine ev_iconst 0 d_La_law_991 (by decide) ?_
  refine ev_lald d_La_law_992 ha1.1 ha1.2 hi4 ?_
  refine ev_iload d_La_law_993 rfl ?_
  refine ev_i2l d_La_law_995 ?_
  refine ev_lcmp d_La_law_996 ?_
  exact ev_if_eq 1002 d_La_law_997 (by decide) kt kf
theorem t_La_law_1000 {d : Nat} {o0 : Option Value} {o1 : Option Value} {o2 : Option Value} {o3 : Option Value} {o4 : Option Value} {o5 : Option Value} {o6 : Option Value} {w : qk_W} {nc ns : Nat} {Q : Option Value ⊕ Nat → qk_W → Nat → Nat → Prop}   (hq : Q (.inl (some (.int 0))) w nc ns) : Ev d m_La_law 1000 [o0, o1, o2, o3, o4, o5, o6] [] w nc ns Q := by
  refine ev_iconst 0 d_La_law_1000 (by decide) ?_
  exact ev_iret d_La_law_1001 rfl rfl hq
theorem t_La_law_1002 {d : Nat} {st : List Value} {o0 : Option Value} {o1 : Option Value} {o2 : Option Value} {o3 : Option Value} {x4 : Int32} {o5 : Option Value} {o6 : Option Value} {w : qk_W} {nc ns : Nat} {Q : Option Value ⊕ Nat → qk_W → Nat → Nat → Prop}  (hc1 : qk_c2 [o0, o1, o2, o3, some (.int x4), o5, o6] 4 = true) (k : Ev d m_La_law 23 [o0, o1, o2, o3, some (.int (x4 + 6)), o5, o6] st w nc ns Q) : Ev d m_La_law 1002 [o0, o1, o2, o3, some (.int x4), o5, o6] st w nc ns Q := by
  refine ev_goto 1281 d_La_law_1002 (by decide) ?_
  refine ev_iinc 6 d_La_law_1281 (by decide) rfl (by decide) hc1 ?_
  refine ev_goto 23 d_La_law_1284 (by decide) ?_
  exact k
theorem t_La_law_1005 {d : Nat} {st : List Value} {a0 : Nat} {a1 : Nat} {o2 : Option Value} {a3 : Nat} {x4 : Int32} {o5 : Option Value} {o6 : Option Value} {n2 : Nat} {f3 : Nat → Int32} {w : qk_W} {nc ns : Nat} {Q : Option Value ⊕ Nat → qk_W → Nat → Nat → Prop}  (ha1 : wi w a0 n2 f3) (hi4 : vp_in (x4 + 1) n2) (h8 : (st.map fun v => Value.category v).sum ≤ 8) (k : Ev d m_La_gaps 0 [some (.ref a1), some (.int (f3 (x4 + 1).toNatClampNeg)), some (.ref a3), none] [] w nc ns (fun r w1 nc1 ns1 => match r with | .inl v => Ev (d + 1) m_La_law 1016 [some (.ref a0), some (.ref a1), o2, some (.ref a3), some (.int x4), o5, o6] (v.toList ++ st) w1 nc1 ns1 Q | .inr x => Q (.inr x) w1 nc1 ns1)) : Ev (d + 1) m_La_law 1005 [some (.ref a0), some (.ref a1), o2, some (.ref a3), some (.int x4), o5, o6] st w nc ns Q := by
  refine ev_aload_n d_La_law_1005 rfl rfl ?_
  refine ev_aload_n d_La_law_1006 rfl rfl ?_
  refine ev_iload d_La_law_1007 rfl ?_
  refine ev_iconst 1 d_La_law_1009 (by decide) ?_
  refine ev_iadd d_La_law_1010 ?_
  refine ev_iald d_La_law_1011 ha1 hi4 ?_
  refine ev_aload_n d_La_law_1012 rfl rfl ?_
  exact ev_call (M' := m_La_gaps) (As := [.ref a1, .int (f3 (x4 + 1).toNatClampNeg), .ref a3]) (st := st) d_La_law_1013 i_La_gaps (fun h => absurd h (by decide +kernel)) cw_La_141 rfl rfl trivial rfl (Nat.le_of_ble_eq_true rfl) h8 k
theorem t_La_law_1016 {d : Nat} {st : List Value} {a0 : Nat} {o1 : Option Value} {a2 : Nat} {o3 : Option Value} {x4 : Int32} {o5 : Option Value} {o6 : Option Value} {y0 : Int32} {n3 : Nat} {f4 : Nat → Int32} {fsb : List Value} {w : qk_W} {nc ns : Nat} {Q : Option Value ⊕ Nat → qk_W → Nat → Nat → Prop}  (hc1 : qk_c2 [some (.ref a0), o1, some (.ref a2), o3, some (.int x4), o5, o6] 5 = true) (ha2 : wi w a0 n3 f4) (hi5 : vp_in (x4 + 1) n3) (hb : wo w a2 11 fsb) (h8 : (st.map fun v => Value.category v).sum ≤ 8) (k : Ev d m_Mo_gaps 0 [some (.ref a2), some (.int (f4 (x4 + 1).toNatClampNeg)), none, none] [] w nc ns (fun r w1 nc1 ns1 => match r with | .inl v => Ev (d + 1) m_La_law 1028 [some (.ref a0), o1, some (.ref a2), o3, some (.int x4), some (.int y0), o6] (v.toList ++ st) w1 nc1 ns1 Q | .inr x => Q (.inr x) w1 nc1 ns1)) : Ev (d + 1) m_La_law 1016 [some (.ref a0), o1, some (.ref a2), o3, some (.int x4), o5, o6] (.int y0 :: st) w nc ns Q := by
  refine ev_istore d_La_law_1016 (by decide) hc1 ?_
  refine ev_aload_n d_La_law_1018 rfl rfl ?_
  refine ev_aload_n d_La_law_1019 rfl rfl ?_
  refine ev_iload d_La_law_1020 rfl ?_
  refine ev_iconst 1 d_La_law_1022 (by decide) ?_
  refine ev_iadd d_La_law_1023 ?_
  refine ev_iald d_La_law_1024 ha2 hi5 ?_
  exact ev_call (M' := m_Mo_gaps) (As := [.ref a2, .int (f4 (x4 + 1).toNatClampNeg)]) (st := st) d_La_law_1025 i_Mo_gaps (fun h => absurd h (by decide +kernel)) cw_La_143 rfl rfl ⟨hb.1, 11, _, _, hb.2, rfl, rfl⟩ rfl (Nat.le_of_ble_eq_true rfl) h8 k
theorem t_La_law_1028 {d : Nat} {st : List Value} {o0 : Option Value} {o1 : Option Value} {a2 : Nat} {o3 : Option Value} {o4 : Option Value} {o5 : Option Value} {o6 : Option Value} {y0 : Int32} {fsb : List Value} {w : qk_W} {nc ns : Nat} {Q : Option Value ⊕ Nat → qk_W → Nat → Nat → Prop}  (hc1 : qk_c2 [o0, o1, some (.ref a2), o3, o4, o5, o6] 6 = true) (hb : wo w a2 11 fsb) (h8 : (st.map fun v => Value.category v).sum ≤ 8) (k : Ev d m_Mo_thrown 0 [some (.ref a2)] [] w nc ns (fun r w1 nc1 ns1 => match r with | .inl v => Ev (d + 1) m_La_law 1034 [o0, o1, some (.ref a2), o3, o4, o5, some (.int y0)] (v.toList ++ st) w1 nc1 ns1 Q | .inr x => Q (.inr x) w1 nc1 ns1)) : Ev (d + 1) m_La_law 1028 [o0, o1, some (.ref a2), o3, o4, o5, o6] (.int y0 :: st) w nc ns Q := by
  refine ev_istore d_La_law_1028 (by decide) hc1 ?_
  refine ev_aload_n d_La_law_1030 rfl rfl ?_
  exact ev_call (M' := m_Mo_thrown) (As := [.ref a2]) (st := st) d_La_law_1031 i_Mo_thrown (fun h => absurd h (by decide +kernel)) cw_La_86 rfl rfl ⟨hb.1, 11, _, _, hb.2, rfl, rfl⟩ rfl (Nat.le_of_ble_eq_true rfl) h8 k
theorem t_La_law_1034 {d : Nat} {st : List Value} {o0 : Option Value} {o1 : Option Value} {o2 : Option Value} {o3 : Option Value} {o4 : Option Value} {x5 : Int32} {o6 : Option Value} {y0 : Int32} {w : qk_W} {nc ns : Nat} {Q : Option Value ⊕ Nat → qk_W → Nat → Nat → Prop}   (kt : y0 = x5 → Ev d m_La_law 1041 [o0, o1, o2, o3, o4, some (.int x5), o6] st w nc ns Q) (kf : ¬ (y0 = x5) → Ev d m_La_law 1039 [o0, o1, o2, o3, o4, some (.int x5), o6] st w nc ns Q) : Ev d m_La_law 1034 [o0, o1, o2, o3, o4, some (.int x5), o6] (.int y0 :: st) w nc ns Q := by
  refine ev_iload d_La_law_1034 rfl ?_
  exact ev_icmp_eq 1041 d_La_law_1036 (by decide) kt kf
theorem t_La_law_1039 {d : Nat} {o0 : Option Value} {o1 : Option Value} {o2 : Option Value} {o3 : Option Value} {o4 : Option Value} {o5 : Option Value} {o6 : Option Value} {w : qk_W} {nc ns : Nat} {Q : Option Value ⊕ Nat → qk_W → Nat → Nat → Prop}   (hq : Q (.inl (some (.int 0))) w nc ns) : Ev d m_La_law 1039 [o0, o1, o2, o3, o4, o5, o6] [] w nc ns Q := by
  refine ev_iconst 0 d_La_law_1039 (by decide) ?_
  exact ev_iret d_La_law_1040 rfl rfl hq
theorem t_La_law_1041 {d : Nat} {st : List Value} {o0 : Option Value} {o1 : Option Value} {o2 : Option Value} {o3 : Option Value} {o4 : Option Value} {x5 : Int32} {o6 : Option Value} {w : qk_W} {nc ns : Nat} {Q : Option Value ⊕ Nat → qk_W → Nat → Nat → Prop}   (kt : ¬ x5 = 0 → Ev d m_La_law 1058 [o0, o1, o2, o3, o4, some (.int x5), o6] st w nc ns Q) (kf : x5 = 0 → Ev d m_La_law 1046 [o0, o1, o2, o3, o4, some (.int x5), o6] st w nc ns Q) : Ev d m_La_law 1041 [o0, o1, o2, o3, o4, some (.int x5), o6] st w nc ns Q := by
  refine ev_iload d_La_law_1041 rfl ?_
  exact ev_if_ne 1058 d_La_law_1043 (by decide) kt kf
theorem t_La_law_1046 {d : Nat} {st : List Value} {o0 : Option Value} {o1 : Option Value} {o2 : Option Value} {a3 : Nat} {o4 : Option Value} {o5 : Option Value} {x6 : Int32} {n2 : Nat} {f3 : Nat → Int64} {w : qk_W} {nc ns : Nat} {Q : Option Value ⊕ Nat → qk_W → Nat → Nat → Prop}  (ha1 : wl w a3 n2 f3) (hi4 : vp_in 0 n2) (kt : (lg_cmp (f3 (0 : Int32).toNatClampNeg) (Int32.toInt64 x6)) = 0 → Ev d m_La_law 1058 [o0, o1, o2, some (.ref a3), o4, o5, some (.int x6)] st w nc ns Q) (kf : ¬ ((lg_cmp (f3 (0 : Int32).toNatClampNeg) (Int32.toInt64 x6)) = 0) → Ev d m_La_law 1056 [o0, o1, o2, some (.ref a3), o4, o5, some (.int x6)] st w nc ns Q) : Ev d m_La_law 1046 [o0, o1, o2, some (.ref a3), o4, o5, some (.int x6)] st w nc ns Q := by
  refine ev_aload_n d_La_law_1046 rfl rfl ?_
  refine ev_iconst 0 d_La_law_1047 (by decide) ?_
  refine ev_lald d_La_law_1048 ha1.1 ha1.2 hi4 ?_
  refine ev_iload d_La_law_1049 rfl ?_
  refine ev_i2l d_La_law_1051 ?_
  refine ev_lcmp d_La_law_1052 ?_
  exact ev_if_eq 1058 d_La_law_1053 (by decide) kt kf
theorem t_La_law_1056 {d : Nat} {o0 : Option Value} {o1 : Option Value} {o2 : Option Value} {o3 : Option Value} {o4 : Option Value} {o5 : Option Value} {o6 : Option Value} {w : qk_W} {nc ns : Nat} {Q : Option Value ⊕ Nat → qk_W → Nat → Nat → Prop}   (hq : Q (.inl (some (.int 0))) w nc ns) : Ev d m_La_law 1056 [o0, o1, o2, o3, o4, o5, o6] [] w nc ns Q := by
  refine ev_iconst 0 d_La_law_1056 (by decide) ?_
  exact ev_iret d_La_law_1057 rfl rfl hq
theorem t_La_law_1058 {d : Nat} {st : List Value} {o0 : Option Value} {o1 : Option Value} {o2 : Option Value} {o3 : Option Value} {x4 : Int32} {o5 : Option Value} {o6 : Option Value} {w : qk_W} {nc ns : Nat} {Q : Option Value ⊕ Nat → qk_W → Nat → Nat → Prop}  (hc1 : qk_c2 [o0, o1, o2, o3, some (.int x4), o5, o6] 4 = true) (k : Ev d m_La_law 23 [o0, o1, o2, o3, some (.int (x4 + 6)), o5, o6] st w nc ns Q) : Ev d m_La_law 1058 [o0, o1, o2, o3, some (.int x4), o5, o6] st w nc ns Q := by
  refine ev_goto 1281 d_La_law_1058 (by decide) ?_
  refine ev_iinc 6 d_La_law_1281 (by decide) rfl (by decide) hc1 ?_
  refine ev_goto 23 d_La_law_1284 (by decide) ?_
  exact k
theorem t_La_law_1061 {d : Nat} {st : List Value} {a0 : Nat} {v1 : Value} {o2 : Option Value} {o3 : Option Value} {x4 : Int32} {o5 : Option Value} {o6 : Option Value} {n2 : Nat} {f3 : Nat → Int32} {w : qk_W} {nc ns : Nat} {Q : Option Value ⊕ Nat → qk_W → Nat → Nat → Prop} (hv1 : qk_isr v1 = true) (ha1 : wi w a0 n2 f3) (hi4 : vp_in (x4 + 1) n2) (hi5 : vp_in (x4 + 2) n2) (hi6 : vp_in (x4 + 3) n2) (kt : (f3 (x4 + 3).toNatClampNeg) = 0 → Ev d m_La_law 1087 [some (.ref a0), some v1, o2, o3, some (.int x4), o5, o6] (.int (f3 (x4 + 2).toNatClampNeg) :: .int (f3 (x4 + 1).toNatClampNeg) :: v1 :: st) w nc ns Q) (kf : ¬ ((f3 (x4 + 3).toNatClampNeg) = 0) → Ev d m_La_law 1083 [some (.ref a0), some v1, o2, o3, some (.int x4), o5, o6] (.int (f3 (x4 + 2).toNatClampNeg) :: .int (f3 (x4 + 1).toNatClampNeg) :: v1 :: st) w nc ns Q) : Ev d m_La_law 1061 [some (.ref a0), some v1, o2, o3, some (.int x4), o5, o6] st w nc ns Q := by
  refine ev_aload_n d_La_law_1061 rfl hv1 ?_
  refine ev_aload_n d_La_law_1062 rfl rfl ?_
  refine ev_iload d_La_law_1063 rfl ?_
  refine ev_iconst 1 d_La_law_1065 (by decide) ?_
  refine ev_iadd d_La_law_1066 ?_
  refine ev_iald d_La_law_1067 ha1 hi4 ?_
  refine ev_aload_n d_La_law_1068 rfl rfl ?_
  refine ev_iload d_La_law_1069 rfl ?_
  refine ev_iconst 2 d_La_law_1071 (by decide) ?_
  refine ev_iadd d_La_law_1072 ?_
  refine ev_iald d_La_law_1073 ha1 hi5 ?_
  refine ev_aload_n d_La_law_1074 rfl rfl ?_
  refine ev_iload d_La_law_1075 rfl ?_
  refine ev_iconst 3 d_La_law_1077 (by decide) ?_
  refine ev_iadd d_La_law_1078 ?_
  refine ev_iald d_La_law_1079 ha1 hi6 ?_
  exact ev_if_eq 1087 d_La_law_1080 (by decide) kt kf
theorem t_La_law_1083 {d : Nat} {st : List Value} {o0 : Option Value} {o1 : Option Value} {o2 : Option Value} {a3 : Nat} {o4 : Option Value} {o5 : Option Value} {o6 : Option Value} {y0 : Int32} {y1 : Int32} {b2 : Nat} {w : qk_W} {nc ns : Nat} {Q : Option Value ⊕ Nat → qk_W → Nat → Nat → Prop}  (h8 : (st.map fun v => Value.category v).sum ≤ 8) (k : Ev d m_La_gap 0 [some (.ref b2), some (.int y1), some (.int y0), some (.int 1), some (.ref a3), none] [] w nc ns (fun r w1 nc1 ns1 => match r with | .inl v => Ev (d + 1) m_La_law 1092 [o0, o1, o2, some (.ref a3), o4, o5, o6] (v.toList ++ st) w1 nc1 ns1 Q | .inr x => Q (.inr x) w1 nc1 ns1)) : Ev (d + 1) m_La_law 1083 [o0, o1, o2, some (.ref a3), o4, o5, o6] (.int y0 :: .int y1 :: .ref b2 :: st) w nc ns Q := by
  refine ev_iconst 1 d_La_law_1083 (by decide) ?_
  refine ev_goto 1088 d_La_law_1084 (by decide) ?_
  refine ev_aload_n d_La_law_1088 rfl rfl ?_
  exact ev_call (M' := m_La_gap) (As := [.ref b2, .int y1, .int y0, .int 1, .ref a3]) (st := st) d_La_law_1089 i_La_gap (fun h => absurd h (by decide +kernel)) cw_La_144 rfl rfl trivial rfl (Nat.le_of_ble_eq_true rfl) h8 k
theorem t_La_law_1087 {d : Nat} {st : List Value} {o0 : Option Value} {o1 : Option Value} {o2 : Option Value} {a3 : Nat} {o4 : Option Value} {o5 : Option Value} {o6 : Option Value} {y0 : Int32} {y1 : Int32} {b2 : Nat} {w : qk_W} {nc ns : Nat} {Q : Option Value ⊕ Nat → qk_W → Nat → Nat → Prop}  (h8 : (st.map fun v => Value.category v).sum ≤ 8) (k : Ev d m_La_gap 0 [some (.ref b2), some (.int y1), some (.int y0), some (.int 0), some (.ref a3), none] [] w nc ns (fun r w1 nc1 ns1 => match r with | .inl v => Ev (d + 1) m_La_law 1092 [o0, o1, o2, some (.ref a3), o4, o5, o6] (v.toList ++ st) w1 nc1 ns1 Q | .inr x => Q (.inr x) w1 nc1 ns1)) : Ev (d + 1) m_La_law 1087 [o0, o1, o2, some (.ref a3), o4, o5, o6] (.int y0 :: .int y1 :: .ref b2 :: st) w nc ns Q := by
  refine ev_iconst 0 d_La_law_1087 (by decide) ?_
  refine ev_aload_n d_La_law_1088 rfl rfl ?_
  exact ev_call (M' := m_La_gap) (As := [.ref b2, .int y1, .int y0, .int 0, .ref a3]) (st := st) d_La_law_1089 i_La_gap (fun h => absurd h (by decide +kernel)) cw_La_144 rfl rfl trivial rfl (Nat.le_of_ble_eq_true rfl) h8 k
theorem t_La_law_1092 {d : Nat} {st : List Value} {a0 : Nat} {o1 : Option Value} {v2 : Value} {o3 : Option Value} {x4 : Int32} {o5 : Option Value} {o6 : Option Value} {y0 : Int32} {n3 : Nat} {f4 : Nat → Int32} {w : qk_W} {nc ns : Nat} {Q : Option Value ⊕ Nat → qk_W → Nat → Nat → Prop} (hv2 : qk_isr v2 = true) (hc1 : qk_c2 [some (.ref a0), o1, some v2, o3, some (.int x4), o5, o6] 5 = true) (ha2 : wi w a0 n3 f4) (hi5 : vp_in (x4 + 1) n3) (hi6 : vp_in (x4 + 2) n3) (hi7 : vp_in (x4 + 3) n3) (kt : (f4 (x4 + 3).toNatClampNeg) = 0 → Ev d m_La_law 1120 [some (.ref a0), o1, some v2, o3, some (.int x4), some (.int y0), o6] (.int (f4 (x4 + 2).toNatClampNeg) :: .int (f4 (x4 + 1).toNatClampNeg) :: v2 :: st) w nc ns Q) (kf : ¬ ((f4 (x4 + 3).toNatClampNeg) = 0) → Ev d m_La_law 1116 [some (.ref a0), o1, some v2, o3, some (.int x4), some (.int y0), o6] (.int (f4 (x4 + 2).toNatClampNeg) :: .int (f4 (x4 + 1).toNatClampNeg) :: v2 :: st) w nc ns Q) : Ev d m_La_law 1092 [some (.ref a0), o1, some v2, o3, some (.int x4), o5, o6] (.int y0 :: st) w nc ns Q := by
  refine ev_istore d_La_law_1092 (by decide) hc1 ?_
  refine ev_aload_n d_La_law_1094 rfl hv2 ?_
  refine ev_aload_n d_La_law_1095 rfl rfl ?_
  refine ev_iload d_La_law_1096 rfl ?_
  refine ev_iconst 1 d_La_law_1098 (by decide) ?_
  refine ev_iadd d_La_law_1099 ?_
  refine ev_iald d_La_law_1100 ha2 hi5 ?_
  refine ev_aload_n d_La_law_1101 rfl rfl ?_
  refine ev_iload d_La_law_1102 rfl ?_
  refine ev_iconst 2 d_La_law_1104 (by decide) ?_
  refine ev_iadd d_La_law_1105 ?_
  refine ev_iald d_La_law_1106 ha2 hi6 ?_
  refine ev_aload_n d_La_law_1107 rfl rfl ?_
  refine ev_iload d_La_law_1108 rfl ?_
  refine ev_iconst 3 d_La_law_1110 (by decide) ?_
  refine ev_iadd d_La_law_1111 ?_
  refine ev_iald d_La_law_1112 ha2 hi7 ?_
  exact ev_if_eq 1120 d_La_law_1113 (by decide) kt kf
theorem t_La_law_1116 {d : Nat} {st : List Value} {o0 : Option Value} {o1 : Option Value} {o2 : Option Value} {o3 : Option Value} {o4 : Option Value} {o5 : Option Value} {o6 : Option Value} {y0 : Int32} {y1 : Int32} {b2 : Nat} {fsb : List Value} {w : qk_W} {nc ns : Nat} {Q : Option Value ⊕ Nat → qk_W → Nat → Nat → Prop}  (hb : wo w b2 11 fsb) (h8 : (st.map fun v => Value.category v).sum ≤ 8) (k : Ev d m_Mo_gap 0 [some (.ref b2), some (.int y1), some (.int y0), some (.int 1), none, none] [] w nc ns (fun r w1 nc1 ns1 => match r with | .inl v => Ev (d + 1) m_La_law 1124 [o0, o1, o2, o3, o4, o5, o6] (v.toList ++ st) w1 nc1 ns1 Q | .inr x => Q (.inr x) w1 nc1 ns1)) : Ev (d + 1) m_La_law 1116 [o0, o1, o2, o3, o4, o5, o6] (.int y0 :: .int y1 :: .ref b2 :: st) w nc ns Q := by
  refine ev_iconst 1 d_La_law_1116 (by decide) ?_
  refine ev_goto 1121 d_La_law_1117 (by decide) ?_
  exact ev_call (M' := m_Mo_gap) (As := [.ref b2, .int y1, .int y0, .int 1]) (st := st) d_La_law_1121 i_Mo_gap (fun h => absurd h (by decide +kernel)) cw_La_147 rfl rfl ⟨hb.1, 11, _, _, hb.2, rfl, rfl⟩ rfl (Nat.le_of_ble_eq_true rfl) h8 k
theorem t_La_law_1120 {d : Nat} {st : List Value} {o0 : Option Value} {o1 : Option Value} {o2 : Option Value} {o3 : Option Value} {o4 : Option Value} {o5 : Option Value} {o6 : Option Value} {y0 : Int32} {y1 : Int32} {b2 : Nat} {fsb : List Value} {w : qk_W} {nc ns : Nat} {Q : Option Value ⊕ Nat → qk_W → Nat → Nat → Prop}  (hb : wo w b2 11 fsb) (h8 : (st.map fun v => Value.category v).sum ≤ 8) (k : Ev d m_Mo_gap 0 [some (.ref b2), some (.int y1), some (.int y0), some (.int 0), none, none] [] w nc ns (fun r w1 nc1 ns1 => match r with | .inl v => Ev (d + 1) m_La_law 1124 [o0, o1, o2, o3, o4, o5, o6] (v.toList ++ st) w1 nc1 ns1 Q | .inr x => Q (.inr x) w1 nc1 ns1)) : Ev (d + 1) m_La_law 1120 [o0, o1, o2, o3, o4, o5, o6] (.int y0 :: .int y1 :: .ref b2 :: st) w nc ns Q := by
  refine ev_iconst 0 d_La_law_1120 (by decide) ?_
  exact ev_call (M' := m_Mo_gap) (As := [.ref b2, .int y1, .int y0, .int 0]) (st := st) d_La_law_1121 i_Mo_gap (fun h => absurd h (by decide +kernel)) cw_La_147 rfl rfl ⟨hb.1, 11, _, _, hb.2, rfl, rfl⟩ rfl (Nat.le_of_ble_eq_true rfl) h8 k
theorem t_La_law_1124 {d : Nat} {st : List Value} {o0 : Option Value} {o1 : Option Value} {a2 : Nat} {o3 : Option Value} {o4 : Option Value} {o5 : Option Value} {o6 : Option Value} {y0 : Int32} {fsb : List Value} {w : qk_W} {nc ns : Nat} {Q : Option Value ⊕ Nat → qk_W → Nat → Nat → Prop}  (hc1 : qk_c2 [o0, o1, some (.ref a2), o3, o4, o5, o6] 6 = true) (hb : wo w a2 11 fsb) (h8 : (st.map fun v => Value.category v).sum ≤ 8) (k : Ev d m_Mo_thrown 0 [some (.ref a2)] [] w nc ns (fun r w1 nc1 ns1 => match r with | .inl v => Ev (d + 1) m_La_law 1130 [o0, o1, some (.ref a2), o3, o4, o5, some (.int y0)] (v.toList ++ st) w1 nc1 ns1 Q | .inr x => Q (.inr x) w1 nc1 ns1)) : Ev (d + 1) m_La_law 1124 [o0, o1, some (.ref a2), o3, o4, o5, o6] (.int y0 :: st) w nc ns Q := by
  refine ev_istore d_La_law_1124 (by decide) hc1 ?_
  refine ev_aload_n d_La_law_1126 rfl rfl ?_
  exact ev_call (M' := m_Mo_thrown) (As := [.ref a2]) (st := st) d_La_law_1127 i_Mo_thrown (fun h => absurd h (by decide +kernel)) cw_La_86 rfl rfl ⟨hb.1, 11, _, _, hb.2, rfl, rfl⟩ rfl (Nat.le_of_ble_eq_true rfl) h8 k
theorem t_La_law_1130 {d : Nat} {st : List Value} {o0 : Option Value} {o1 : Option Value} {o2 : Option Value} {o3 : Option Value} {o4 : Option Value} {x5 : Int32} {o6 : Option Value} {y0 : Int32} {w : qk_W} {nc ns : Nat} {Q : Option Value ⊕ Nat → qk_W → Nat → Nat → Prop}   (kt : y0 = x5 → Ev d m_La_law 1137 [o0, o1, o2, o3, o4, some (.int x5), o6] st w nc ns Q) (kf : ¬ (y0 = x5) → Ev d m_La_law 1135 [o0, o1, o2, o3, o4, some (.int x5), o6] st w nc ns Q) : Ev d m_La_law 1130 [o0, o1, o2, o3, o4, some (.int x5), o6] (.int y0 :: st) w nc ns Q := by
  refine ev_iload d_La_law_1130 rfl ?_
  exact ev_icmp_eq 1137 d_La_law_1132 (by decide) kt kf
theorem t_La_law_1135 {d : Nat} {o0 : Option Value} {o1 : Option Value} {o2 : Option Value} {o3 : Option Value} {o4 : Option Value} {o5 : Option Value} {o6 : Option Value} {w : qk_W} {nc ns : Nat} {Q : Option Value ⊕ Nat → qk_W → Nat → Nat → Prop}   (hq : Q (.inl (some (.int 0))) w nc ns) : Ev d m_La_law 1135 [o0, o1, o2, o3, o4, o5, o6] [] w nc ns Q := by
  refine ev_iconst 0 d_La_law_1135 (by decide) ?_
  exact ev_iret d_La_law_1136 rfl rfl hq
theorem t_La_law_1137 {d : Nat} {st : List Value} {o0 : Option Value} {o1 : Option Value} {o2 : Option Value} {o3 : Option Value} {o4 : Option Value} {x5 : Int32} {o6 : Option Value} {w : qk_W} {nc ns : Nat} {Q : Option Value ⊕ Nat → qk_W → Nat → Nat → Prop}   (kt : ¬ x5 = 0 → Ev d m_La_law 1154 [o0, o1, o2, o3, o4, some (.int x5), o6] st w nc ns Q) (kf : x5 = 0 → Ev d m_La_law 1142 [o0, o1, o2, o3, o4, some (.int x5), o6] st w nc ns Q) : Ev d m_La_law 1137 [o0, o1, o2, o3, o4, some (.int x5), o6] st w nc ns Q := by
  refine ev_iload d_La_law_1137 rfl ?_
  exact ev_if_ne 1154 d_La_law_1139 (by decide) kt kf
theorem t_La_law_1142 {d : Nat} {st : List Value} {o0 : Option Value} {o1 : Option Value} {o2 : Option Value} {a3 : Nat} {o4 : Option Value} {o5 : Option Value} {x6 : Int32} {n2 : Nat} {f3 : Nat → Int64} {w : qk_W} {nc ns : Nat} {Q : Option Value ⊕ Nat → qk_W → Nat → Nat → Prop}  (ha1 : wl w a3 n2 f3) (hi4 : vp_in 0 n2) (kt : (lg_cmp (f3 (0 : Int32).toNatClampNeg) (Int32.toInt64 x6)) = 0 → Ev d m_La_law 1154 [o0, o1, o2, some (.ref a3), o4, o5, some (.int x6)] st w nc ns Q) (kf : ¬ ((lg_cmp (f3 (0 : Int32).toNatClampNeg) (Int32.toInt64 x6)) = 0) → Ev d m_La_law 1152 [o0, o1, o2, some (.ref a3), o4, o5, some (.int x6)] st w nc ns Q) : Ev d m_La_law 1142 [o0, o1, o2, some (.ref a3), o4, o5, some (.int x6)] st w nc ns Q := by
  refine ev_aload_n d_La_law_1142 rfl rfl ?_
  refine ev_iconst 0 d_La_law_1143 (by decide) ?_
  refine ev_lald d_La_law_1144 ha1.1 ha1.2 hi4 ?_
  refine ev_iload d_La_law_1145 rfl ?_
  refine ev_i2l d_La_law_1147 ?_
  refine ev_lcmp d_La_law_1148 ?_
  exact ev_if_eq 1154 d_La_law_1149 (by decide) kt kf
theorem t_La_law_1152 {d : Nat} {o0 : Option Value} {o1 : Option Value} {o2 : Option Value} {o3 : Option Value} {o4 : Option Value} {o5 : Option Value} {o6 : Option Value} {w : qk_W} {nc ns : Nat} {Q : Option Value ⊕ Nat → qk_W → Nat → Nat → Prop}   (hq : Q (.inl (some (.int 0))) w nc ns) : Ev d m_La_law 1152 [o0, o1, o2, o3, o4, o5, o6] [] w nc ns Q := by
  refine ev_iconst 0 d_La_law_1152 (by decide) ?_
  exact ev_iret d_La_law_1153 rfl rfl hq
theorem t_La_law_1154 {d : Nat} {st : List Value} {o0 : Option Value} {o1 : Option Value} {o2 : Option Value} {o3 : Option Value} {x4 : Int32} {o5 : Option Value} {o6 : Option Value} {w : qk_W} {nc ns : Nat} {Q : Option Value ⊕ Nat → qk_W → Nat → Nat → Prop}  (hc1 : qk_c2 [o0, o1, o2, o3, some (.int x4), o5, o6] 4 = true) (k : Ev d m_La_law 23 [o0, o1, o2, o3, some (.int (x4 + 6)), o5, o6] st w nc ns Q) : Ev d m_La_law 1154 [o0, o1, o2, o3, some (.int x4), o5, o6] st w nc ns Q := by
  refine ev_goto 1281 d_La_law_1154 (by decide) ?_
  refine ev_iinc 6 d_La_law_1281 (by decide) rfl (by decide) hc1 ?_
  refine ev_goto 23 d_La_law_1284 (by decide) ?_
  exact k
theorem t_La_law_1157 {d : Nat} {st : List Value} {a0 : Nat} {a1 : Nat} {o2 : Option Value} {a3 : Nat} {x4 : Int32} {o5 : Option Value} {o6 : Option Value} {n2 : Nat} {f3 : Nat → Int32} {w : qk_W} {nc ns : Nat} {Q : Option Value ⊕ Nat → qk_W → Nat → Nat → Prop}  (ha1 : wi w a0 n2 f3) (hi4 : vp_in (x4 + 1) n2) (hi5 : vp_in (x4 + 2) n2) (h8 : (st.map fun v => Value.category v).sum ≤ 8) (k : Ev d m_La_count 0 [some (.ref a1), some (.int (f3 (x4 + 1).toNatClampNeg)), some (.int (f3 (x4 + 2).toNatClampNeg)), some (.ref a3), none] [] w nc ns (fun r w1 nc1 ns1 => match r with | .inl v => Ev (d + 1) m_La_law 1174 [some (.ref a0), some (.ref a1), o2, some (.ref a3), some (.int x4), o5, o6] (v.toList ++ st) w1 nc1 ns1 Q | .inr x => Q (.inr x) w1 nc1 ns1)) : Ev (d + 1) m_La_law 1157 [some (.ref a0), some (.ref a1), o2, some (.ref a3), some (.int x4), o5, o6] st w nc ns Q := by
  refine ev_aload_n d_La_law_1157 rfl rfl ?_
  refine ev_aload_n d_La_law_1158 rfl rfl ?_
  refine ev_iload d_La_law_1159 rfl ?_
  refine ev_iconst 1 d_La_law_1161 (by decide) ?_
  refine ev_iadd d_La_law_1162 ?_
  refine ev_iald d_La_law_1163 ha1 hi4 ?_
  refine ev_aload_n d_La_law_1164 rfl rfl ?_
  refine ev_iload d_La_law_1165 rfl ?_
  refine ev_iconst 2 d_La_law_1167 (by decide) ?_
  refine ev_iadd d_La_law_1168 ?_
  refine ev_iald d_La_law_1169 ha1 hi5 ?_
  refine ev_aload_n d_La_law_1170 rfl rfl ?_
  exact ev_call (M' := m_La_count) (As := [.ref a1, .int (f3 (x4 + 1).toNatClampNeg), .int (f3 (x4 + 2).toNatClampNeg), .ref a3]) (st := st) d_La_law_1171 i_La_count (fun h => absurd h (by decide +kernel)) cw_La_148 rfl rfl trivial rfl (Nat.le_of_ble_eq_true rfl) h8 k
theorem t_La_law_1174 {d : Nat} {st : List Value} {a0 : Nat} {o1 : Option Value} {a2 : Nat} {o3 : Option Value} {x4 : Int32} {o5 : Option Value} {o6 : Option Value} {y0 : Int32} {n3 : Nat} {f4 : Nat → Int32} {fsb : List Value} {w : qk_W} {nc ns : Nat} {Q : Option Value ⊕ Nat → qk_W → Nat → Nat → Prop}  (hc1 : qk_c2 [some (.ref a0), o1, some (.ref a2), o3, some (.int x4), o5, o6] 5 = true) (ha2 : wi w a0 n3 f4) (hi5 : vp_in (x4 + 1) n3) (hi6 : vp_in (x4 + 2) n3) (hb : wo w a2 11 fsb) (h8 : (st.map fun v => Value.category v).sum ≤ 8) (k : Ev d m_Mo_count 0 [some (.ref a2), some (.int (f4 (x4 + 1).toNatClampNeg)), some (.int (f4 (x4 + 2).toNatClampNeg)), none, none, none, none] [] w nc ns (fun r w1 nc1 ns1 => match r with | .inl v => Ev (d + 1) m_La_law 1192 [some (.ref a0), o1, some (.ref a2), o3, some (.int x4), some (.int y0), o6] (v.toList ++ st) w1 nc1 ns1 Q | .inr x => Q (.inr x) w1 nc1 ns1)) : Ev (d + 1) m_La_law 1174 [some (.ref a0), o1, some (.ref a2), o3, some (.int x4), o5, o6] (.int y0 :: st) w nc ns Q := by
  refine ev_istore d_La_law_1174 (by decide) hc1 ?_
  refine ev_aload_n d_La_law_1176 rfl rfl ?_
  refine ev_aload_n d_La_law_1177 rfl rfl ?_
  refine ev_iload d_La_law_1178 rfl ?_
  refine ev_iconst 1 d_La_law_1180 (by decide) ?_
  refine ev_iadd d_La_law_1181 ?_
  refine ev_iald d_La_law_1182 ha2 hi5 ?_
  refine ev_aload_n d_La_law_1183 rfl rfl ?_
  refine ev_iload d_La_law_1184 rfl ?_
  refine ev_iconst 2 d_La_law_1186 (by decide) ?_
  refine ev_iadd d_La_law_1187 ?_
  refine ev_iald d_La_law_1188 ha2 hi6 ?_
  exact ev_call (M' := m_Mo_count) (As := [.ref a2, .int (f4 (x4 + 1).toNatClampNeg), .int (f4 (x4 + 2).toNatClampNeg)]) (st := st) d_La_law_1189 i_Mo_count (fun h => absurd h (by decide +kernel)) cw_La_150 rfl rfl ⟨hb.1, 11, _, _, hb.2, rfl, rfl⟩ rfl (Nat.le_of_ble_eq_true rfl) h8 k
theorem t_La_law_1192 {d : Nat} {st : List Value} {o0 : Option Value} {o1 : Option Value} {a2 : Nat} {o3 : Option Value} {o4 : Option Value} {o5 : Option Value} {o6 : Option Value} {y0 : Int32} {fsb : List Value} {w : qk_W} {nc ns : Nat} {Q : Option Value ⊕ Nat → qk_W → Nat → Nat → Prop}  (hc1 : qk_c2 [o0, o1, some (.ref a2), o3, o4, o5, o6] 6 = true) (hb : wo w a2 11 fsb) (h8 : (st.map fun v => Value.category v).sum ≤ 8) (k : Ev d m_Mo_thrown 0 [some (.ref a2)] [] w nc ns (fun r w1 nc1 ns1 => match r with | .inl v => Ev (d + 1) m_La_law 1198 [o0, o1, some (.ref a2), o3, o4, o5, some (.int y0)] (v.toList ++ st) w1 nc1 ns1 Q | .inr x => Q (.inr x) w1 nc1 ns1)) : Ev (d + 1) m_La_law 1192 [o0, o1, some (.ref a2), o3, o4, o5, o6] (.int y0 :: st) w nc ns Q := by
  refine ev_istore d_La_law_1192 (by decide) hc1 ?_
  refine ev_aload_n d_La_law_1194 rfl rfl ?_
  exact ev_call (M' := m_Mo_thrown) (As := [.ref a2]) (st := st) d_La_law_1195 i_Mo_thrown (fun h => absurd h (by decide +kernel)) cw_La_86 rfl rfl ⟨hb.1, 11, _, _, hb.2, rfl, rfl⟩ rfl (Nat.le_of_ble_eq_true rfl) h8 k
theorem t_La_law_1198 {d : Nat} {st : List Value} {o0 : Option Value} {o1 : Option Value} {o2 : Option Value} {o3 : Option Value} {o4 : Option Value} {x5 : Int32} {o6 : Option Value} {y0 : Int32} {w : qk_W} {nc ns : Nat} {Q : Option Value ⊕ Nat → qk_W → Nat → Nat → Prop}   (kt : y0 = x5 → Ev d m_La_law 1205 [o0, o1, o2, o3, o4, some (.int x5), o6] st w nc ns Q) (kf : ¬ (y0 = x5) → Ev d m_La_law 1203 [o0, o1, o2, o3, o4, some (.int x5), o6] st w nc ns Q) : Ev d m_La_law 1198 [o0, o1, o2, o3, o4, some (.int x5), o6] (.int y0 :: st) w nc ns Q := by
  refine ev_iload d_La_law_1198 rfl ?_
  exact ev_icmp_eq 1205 d_La_law_1200 (by decide) kt kf
theorem t_La_law_1203 {d : Nat} {o0 : Option Value} {o1 : Option Value} {o2 : Option Value} {o3 : Option Value} {o4 : Option Value} {o5 : Option Value} {o6 : Option Value} {w : qk_W} {nc ns : Nat} {Q : Option Value ⊕ Nat → qk_W → Nat → Nat → Prop}   (hq : Q (.inl (some (.int 0))) w nc ns) : Ev d m_La_law 1203 [o0, o1, o2, o3, o4, o5, o6] [] w nc ns Q := by
  refine ev_iconst 0 d_La_law_1203 (by decide) ?_
  exact ev_iret d_La_law_1204 rfl rfl hq
theorem t_La_law_1205 {d : Nat} {st : List Value} {o0 : Option Value} {o1 : Option Value} {o2 : Option Value} {o3 : Option Value} {o4 : Option Value} {x5 : Int32} {o6 : Option Value} {w : qk_W} {nc ns : Nat} {Q : Option Value ⊕ Nat → qk_W → Nat → Nat → Prop}   (kt : ¬ x5 = 0 → Ev d m_La_law 1222 [o0, o1, o2, o3, o4, some (.int x5), o6] st w nc ns Q) (kf : x5 = 0 → Ev d m_La_law 1210 [o0, o1, o2, o3, o4, some (.int x5), o6] st w nc ns Q) : Ev d m_La_law 1205 [o0, o1, o2, o3, o4, some (.int x5), o6] st w nc ns Q := by
  refine ev_iload d_La_law_1205 rfl ?_
  exact ev_if_ne 1222 d_La_law_1207 (by decide) kt kf
theorem t_La_law_1210 {d : Nat} {st : List Value} {o0 : Option Value} {o1 : Option Value} {o2 : Option Value} {a3 : Nat} {o4 : Option Value} {o5 : Option Value} {x6 : Int32} {n2 : Nat} {f3 : Nat → Int64} {w : qk_W} {nc ns : Nat} {Q : Option Value ⊕ Nat → qk_W → Nat → Nat → Prop}  (ha1 : wl w a3 n2 f3) (hi4 : vp_in 0 n2) (kt : (lg_cmp (f3 (0 : Int32).toNatClampNeg) (Int32.toInt64 x6)) = 0 → Ev d m_La_law 1222 [o0, o1, o2, some (.ref a3), o4, o5, some (.int x6)] st w nc ns Q) (kf : ¬ ((lg_cmp (f3 (0 : Int32).toNatClampNeg) (Int32.toInt64 x6)) = 0) → Ev d m_La_law 1220 [o0, o1, o2, some (.ref a3), o4, o5, some (.int x6)] st w nc ns Q) : Ev d m_La_law 1210 [o0, o1, o2, some (.ref a3), o4, o5, some (.int x6)] st w nc ns Q := by
  refine ev_aload_n d_La_law_1210 rfl rfl ?_
  refine ev_iconst 0 d_La_law_1211 (by decide) ?_
  refine ev_lald d_La_law_1212 ha1.1 ha1.2 hi4 ?_
  refine ev_iload d_La_law_1213 rfl ?_
  refine ev_i2l d_La_law_1215 ?_
  refine ev_lcmp d_La_law_1216 ?_
  exact ev_if_eq 1222 d_La_law_1217 (by decide) kt kf
theorem t_La_law_1220 {d : Nat} {o0 : Option Value} {o1 : Option Value} {o2 : Option Value} {o3 : Option Value} {o4 : Option Value} {o5 : Option Value} {o6 : Option Value} {w : qk_W} {nc ns : Nat} {Q : Option Value ⊕ Nat → qk_W → Nat → Nat → Prop}   (hq : Q (.inl (some (.int 0))) w nc ns) : Ev d m_La_law 1220 [o0, o1, o2, o3, o4, o5, o6] [] w nc ns Q := by
  refine ev_iconst 0 d_La_law_1220 (by decide) ?_
  exact ev_iret d_La_law_1221 rfl rfl hq
theorem t_La_law_1222 {d : Nat} {st : List Value} {o0 : Option Value} {o1 : Option Value} {o2 : Option Value} {o3 : Option Value} {x4 : Int32} {o5 : Option Value} {o6 : Option Value} {w : qk_W} {nc ns : Nat} {Q : Option Value ⊕ Nat → qk_W → Nat → Nat → Prop}  (hc1 : qk_c2 [o0, o1, o2, o3, some (.int x4), o5, o6] 4 = true) (k : Ev d m_La_law 23 [o0, o1, o2, o3, some (.int (x4 + 6)), o5, o6] st w nc ns Q) : Ev d m_La_law 1222 [o0, o1, o2, o3, some (.int x4), o5, o6] st w nc ns Q := by
  refine ev_goto 1281 d_La_law_1222 (by decide) ?_
  refine ev_iinc 6 d_La_law_1281 (by decide) rfl (by decide) hc1 ?_
  refine ev_goto 23 d_La_law_1284 (by decide) ?_
  exact k
theorem t_La_law_1225 {d : Nat} {st : List Value} {a0 : Nat} {a1 : Nat} {o2 : Option Value} {a3 : Nat} {x4 : Int32} {o5 : Option Value} {o6 : Option Value} {n2 : Nat} {f3 : Nat → Int32} {w : qk_W} {nc ns : Nat} {Q : Option Value ⊕ Nat → qk_W → Nat → Nat → Prop}  (ha1 : wi w a0 n2 f3) (hi4 : vp_in (x4 + 1) n2) (h8 : (st.map fun v => Value.category v).sum ≤ 8) (k : Ev d m_La_total 0 [some (.ref a1), some (.int (f3 (x4 + 1).toNatClampNeg)), some (.ref a3), none] [] w nc ns (fun r w1 nc1 ns1 => match r with | .inl v => Ev (d + 1) m_La_law 1236 [some (.ref a0), some (.ref a1), o2, some (.ref a3), some (.int x4), o5, o6] (v.toList ++ st) w1 nc1 ns1 Q | .inr x => Q (.inr x) w1 nc1 ns1)) : Ev (d + 1) m_La_law 1225 [some (.ref a0), some (.ref a1), o2, some (.ref a3), some (.int x4), o5, o6] st w nc ns Q := by
  refine ev_aload_n d_La_law_1225 rfl rfl ?_
  refine ev_aload_n d_La_law_1226 rfl rfl ?_
  refine ev_iload d_La_law_1227 rfl ?_
  refine ev_iconst 1 d_La_law_1229 (by decide) ?_
  refine ev_iadd d_La_law_1230 ?_
  refine ev_iald d_La_law_1231 ha1 hi4 ?_
  refine ev_aload_n d_La_law_1232 rfl rfl ?_
  exact ev_call (M' := m_La_total) (As := [.ref a1, .int (f3 (x4 + 1).toNatClampNeg), .ref a3]) (st := st) d_La_law_1233 i_La_total (fun h => absurd h (by decide +kernel)) cw_La_151 rfl rfl trivial rfl (Nat.le_of_ble_eq_true rfl) h8 k
theorem t_La_law_1236 {d : Nat} {st : List Value} {a0 : Nat} {o1 : Option Value} {a2 : Nat} {o3 : Option Value} {x4 : Int32} {o5 : Option Value} {o6 : Option Value} {y0 : Int32} {n3 : Nat} {f4 : Nat → Int32} {fsb : List Value} {w : qk_W} {nc ns : Nat} {Q : Option Value ⊕ Nat → qk_W → Nat → Nat → Prop}  (hc1 : qk_c2 [some (.ref a0), o1, some (.ref a2), o3, some (.int x4), o5, o6] 5 = true) (ha2 : wi w a0 n3 f4) (hi5 : vp_in (x4 + 1) n3) (hb : wo w a2 11 fsb) (h8 : (st.map fun v => Value.category v).sum ≤ 8) (k : Ev d m_Mo_total 0 [some (.ref a2), some (.int (f4 (x4 + 1).toNatClampNeg)), none, none] [] w nc ns (fun r w1 nc1 ns1 => match r with | .inl v => Ev (d + 1) m_La_law 1248 [some (.ref a0), o1, some (.ref a2), o3, some (.int x4), some (.int y0), o6] (v.toList ++ st) w1 nc1 ns1 Q | .inr x => Q (.inr x) w1 nc1 ns1)) : Ev (d + 1) m_La_law 1236 [some (.ref a0), o1, some (.ref a2), o3, some (.int x4), o5, o6] (.int y0 :: st) w nc ns Q := by
  refine ev_istore d_La_law_1236 (by decide) hc1 ?_
  refine ev_aload_n d_La_law_1238 rfl rfl ?_
  refine ev_aload_n d_La_law_1239 rfl rfl ?_
  refine ev_iload d_La_law_1240 rfl ?_
  refine ev_iconst 1 d_La_law_1242 (by decide) ?_
  refine ev_iadd d_La_law_1243 ?_
  refine ev_iald d_La_law_1244 ha2 hi5 ?_
  exact ev_call (M' := m_Mo_total) (As := [.ref a2, .int (f4 (x4 + 1).toNatClampNeg)]) (st := st) d_La_law_1245 i_Mo_total (fun h => absurd h (by decide +kernel)) cw_La_153 rfl rfl ⟨hb.1, 11, _, _, hb.2, rfl, rfl⟩ rfl (Nat.le_of_ble_eq_true rfl) h8 k
theorem t_La_law_1248 {d : Nat} {st : List Value} {o0 : Option Value} {o1 : Option Value} {a2 : Nat} {o3 : Option Value} {o4 : Option Value} {o5 : Option Value} {o6 : Option Value} {y0 : Int32} {fsb : List Value} {w : qk_W} {nc ns : Nat} {Q : Option Value ⊕ Nat → qk_W → Nat → Nat → Prop}  (hc1 : qk_c2 [o0, o1, some (.ref a2), o3, o4, o5, o6] 6 = true) (hb : wo w a2 11 fsb) (h8 : (st.map fun v => Value.category v).sum ≤ 8) (k : Ev d m_Mo_thrown 0 [some (.ref a2)] [] w nc ns (fun r w1 nc1 ns1 => match r with | .inl v => Ev (d + 1) m_La_law 1254 [o0, o1, some (.ref a2), o3, o4, o5, some (.int y0)] (v.toList ++ st) w1 nc1 ns1 Q | .inr x => Q (.inr x) w1 nc1 ns1)) : Ev (d + 1) m_La_law 1248 [o0, o1, some (.ref a2), o3, o4, o5, o6] (.int y0 :: st) w nc ns Q := by
  refine ev_istore d_La_law_1248 (by decide) hc1 ?_
  refine ev_aload_n d_La_law_1250 rfl rfl ?_
  exact ev_call (M' := m_Mo_thrown) (As := [.ref a2]) (st := st) d_La_law_1251 i_Mo_thrown (fun h => absurd h (by decide +kernel)) cw_La_86 rfl rfl ⟨hb.1, 11, _, _, hb.2, rfl, rfl⟩ rfl (Nat.le_of_ble_eq_true rfl) h8 k
theorem t_La_law_1254 {d : Nat} {st : List Value} {o0 : Option Value} {o1 : Option Value} {o2 : Option Value} {o3 : Option Value} {o4 : Option Value} {x5 : Int32} {o6 : Option Value} {y0 : Int32} {w : qk_W} {nc ns : Nat} {Q : Option Value ⊕ Nat → qk_W → Nat → Nat → Prop}   (kt : y0 = x5 → Ev d m_La_law 1261 [o0, o1, o2, o3, o4, some (.int x5), o6] st w nc ns Q) (kf : ¬ (y0 = x5) → Ev d m_La_law 1259 [o0, o1, o2, o3, o4, some (.int x5), o6] st w nc ns Q) : Ev d m_La_law 1254 [o0, o1, o2, o3, o4, some (.int x5), o6] (.int y0 :: st) w nc ns Q := by
  refine ev_iload d_La_law_1254 rfl ?_
  exact ev_icmp_eq 1261 d_La_law_1256 (by decide) kt kf
theorem t_La_law_1259 {d : Nat} {o0 : Option Value} {o1 : Option Value} {o2 : Option Value} {o3 : Option Value} {o4 : Option Value} {o5 : Option Value} {o6 : Option Value} {w : qk_W} {nc ns : Nat} {Q : Option Value ⊕ Nat → qk_W → Nat → Nat → Prop}   (hq : Q (.inl (some (.int 0))) w nc ns) : Ev d m_La_law 1259 [o0, o1, o2, o3, o4, o5, o6] [] w nc ns Q := by
  refine ev_iconst 0 d_La_law_1259 (by decide) ?_
  exact ev_iret d_La_law_1260 rfl rfl hq
theorem t_La_law_1261 {d : Nat} {st : List Value} {o0 : Option Value} {o1 : Option Value} {o2 : Option Value} {o3 : Option Value} {o4 : Option Value} {x5 : Int32} {o6 : Option Value} {w : qk_W} {nc ns : Nat} {Q : Option Value ⊕ Nat → qk_W → Nat → Nat → Prop}   (kt : ¬ x5 = 0 → Ev d m_La_law 1278 [o0, o1, o2, o3, o4, some (.int x5), o6] st w nc ns Q) (kf : x5 = 0 → Ev d m_La_law 1266 [o0, o1, o2, o3, o4, some (.int x5), o6] st w nc ns Q) : Ev d m_La_law 1261 [o0, o1, o2, o3, o4, some (.int x5), o6] st w nc ns Q := by
  refine ev_iload d_La_law_1261 rfl ?_
  exact ev_if_ne 1278 d_La_law_1263 (by decide) kt kf
theorem t_La_law_1266 {d : Nat} {st : List Value} {o0 : Option Value} {o1 : Option Value} {o2 : Option Value} {a3 : Nat} {o4 : Option Value} {o5 : Option Value} {x6 : Int32} {n2 : Nat} {f3 : Nat → Int64} {w : qk_W} {nc ns : Nat} {Q : Option Value ⊕ Nat → qk_W → Nat → Nat → Prop}  (ha1 : wl w a3 n2 f3) (hi4 : vp_in 0 n2) (kt : (lg_cmp (f3 (0 : Int32).toNatClampNeg) (Int32.toInt64 x6)) = 0 → Ev d m_La_law 1278 [o0, o1, o2, some (.ref a3), o4, o5, some (.int x6)] st w nc ns Q) (kf : ¬ ((lg_cmp (f3 (0 : Int32).toNatClampNeg) (Int32.toInt64 x6)) = 0) → Ev d m_La_law 1276 [o0, o1, o2, some (.ref a3), o4, o5, some (.int x6)] st w nc ns Q) : Ev d m_La_law 1266 [o0, o1, o2, some (.ref a3), o4, o5, some (.int x6)] st w nc ns Q := by
  refine ev_aload_n d_La_law_1266 rfl rfl ?_
  refine ev_iconst 0 d_La_law_1267 (by decide) ?_
  refine ev_lald d_La_law_1268 ha1.1 ha1.2 hi4 ?_
  refine ev_iload d_La_law_1269 rfl ?_
  refine ev_i2l d_La_law_1271 ?_
  refine ev_lcmp d_La_law_1272 ?_
  exact ev_if_eq 1278 d_La_law_1273 (by decide) kt kf
theorem t_La_law_1276 {d : Nat} {o0 : Option Value} {o1 : Option Value} {o2 : Option Value} {o3 : Option Value} {o4 : Option Value} {o5 : Option Value} {o6 : Option Value} {w : qk_W} {nc ns : Nat} {Q : Option Value ⊕ Nat → qk_W → Nat → Nat → Prop}   (hq : Q (.inl (some (.int 0))) w nc ns) : Ev d m_La_law 1276 [o0, o1, o2, o3, o4, o5, o6] [] w nc ns Q := by
  refine ev_iconst 0 d_La_law_1276 (by decide) ?_
  exact ev_iret d_La_law_1277 rfl rfl hq
theorem t_La_law_1278 {d : Nat} {st : List Value} {o0 : Option Value} {o1 : Option Value} {o2 : Option Value} {o3 : Option Value} {x4 : Int32} {o5 : Option Value} {o6 : Option Value} {w : qk_W} {nc ns : Nat} {Q : Option Value ⊕ Nat → qk_W → Nat → Nat → Prop}  (hc1 : qk_c2 [o0, o1, o2, o3, some (.int x4), o5, o6] 4 = true) (k : Ev d m_La_law 23 [o0, o1, o2, o3, some (.int (x4 + 6)), o5, o6] st w nc ns Q) : Ev d m_La_law 1278 [o0, o1, o2, o3, some (.int x4), o5, o6] st w nc ns Q := by
  refine ev_goto 1281 d_La_law_1278 (by decide) ?_
  refine ev_iinc 6 d_La_law_1281 (by decide) rfl (by decide) hc1 ?_
  refine ev_goto 23 d_La_law_1284 (by decide) ?_
  exact k
theorem t_La_law_1281 {d : Nat} {st : List Value} {o0 : Option Value} {o1 : Option Value} {o2 : Option Value} {o3 : Option Value} {x4 : Int32} {o5 : Option Value} {o6 : Option Value} {w : qk_W} {nc ns : Nat} {Q : Option Value ⊕ Nat → qk_W → Nat → Nat → Prop}  (hc1 : qk_c2 [o0, o1, o2, o3, some (.int x4), o5, o6] 4 = true) (k : Ev d m_La_law 23 [o0, o1, o2, o3, some (.int (x4 + 6)), o5, o6] st w nc ns Q) : Ev d m_La_law 1281 [o0, o1, o2, o3, some (.int x4), o5, o6] st w nc ns Q := by
  refine ev_iinc 6 d_La_law_1281 (by decide) rfl (by decide) hc1 ?_
  refine ev_goto 23 d_La_law_1284 (by decide) ?_
  exact k
theorem t_La_law_1287 {d : Nat} {o0 : Option Value} {o1 : Option Value} {o2 : Option Value} {o3 : Option Value} {o4 : Option Value} {o5 : Option Value} {o6 : Option Value} {w : qk_W} {nc ns : Nat} {Q : Option Value ⊕ Nat → qk_W → Nat → Nat → Prop}   (hq : Q (.inl (some (.int 1))) w nc ns) : Ev d m_La_law 1287 [o0, o1, o2, o3, o4, o5, o6] [] w nc ns Q := by
  refine ev_iconst 1 d_La_law_1287 (by decide) ?_
  exact ev_iret d_La_law_1288 rfl rfl hq
