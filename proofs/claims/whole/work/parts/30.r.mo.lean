/-! Mo_init -/
theorem ob_Mo_1 : Cond.methodLink "QuakeLinkModel" 1 Lib.objectInit ∈ lw_tbl := (lw_i4 _ (List.mem_of_getElem? (i := 173) rfl))
theorem lc_Mo_7 : Cond.constant "QuakeLinkModel" 7 (131072) ∈ lw_tbl := (lw_i4 _ (List.mem_of_getElem? (i := 174) rfl))
theorem fl_Mo_8 : qk_fl "QuakeLinkModel" 8 11 1 := ⟨_, rfl, by decide, rfl, (lw_i4 _ (List.mem_of_getElem? (i := 177) rfl))⟩
theorem fl_Mo_14 : qk_fl "QuakeLinkModel" 14 11 2 := ⟨_, rfl, by decide, rfl, (lw_i4 _ (List.mem_of_getElem? (i := 178) rfl))⟩
theorem fl_Mo_17 : qk_fl "QuakeLinkModel" 17 11 3 := ⟨_, rfl, by decide, rfl, (lw_i4 _ (List.mem_of_getElem? (i := 179) rfl))⟩
theorem fl_Mo_20 : qk_fl "QuakeLinkModel" 20 11 4 := ⟨_, rfl, by decide, rfl, (lw_i4 _ (List.mem_of_getElem? (i := 180) rfl))⟩
theorem fl_Mo_23 : qk_fl "QuakeLinkModel" 23 11 5 := ⟨_, rfl, by decide, rfl, (lw_i4 _ (List.mem_of_getElem? (i := 181) rfl))⟩
theorem fl_Mo_27 : qk_fl "QuakeLinkModel" 27 11 6 := ⟨_, rfl, by decide, rfl, (lw_i4 _ (List.mem_of_getElem? (i := 182) rfl))⟩
theorem fl_Mo_30 : qk_fl "QuakeLinkModel" 30 11 7 := ⟨_, rfl, by decide, rfl, (lw_i4 _ (List.mem_of_getElem? (i := 183) rfl))⟩
theorem fl_Mo_33 : qk_fl "QuakeLinkModel" 33 11 8 := ⟨_, rfl, by decide, rfl, (lw_i4 _ (List.mem_of_getElem? (i := 184) rfl))⟩
theorem fl_Mo_36 : qk_fl "QuakeLinkModel" 36 11 9 := ⟨_, rfl, by decide, rfl, (lw_i4 _ (List.mem_of_getElem? (i := 185) rfl))⟩
theorem fl_Mo_39 : qk_fl "QuakeLinkModel" 39 11 10 := ⟨_, rfl, by decide, rfl, (lw_i4 _ (List.mem_of_getElem? (i := 186) rfl))⟩
theorem fl_Mo_43 : qk_fl "QuakeLinkModel" 43 11 12 := ⟨_, rfl, by decide, rfl, (lw_i4 _ (List.mem_of_getElem? (i := 188) rfl))⟩
theorem lc_Mo_46 : Cond.constant "QuakeLinkModel" 46 (32768) ∈ lw_tbl := (lw_i4 _ (List.mem_of_getElem? (i := 175) rfl))
theorem fl_Mo_47 : qk_fl "QuakeLinkModel" 47 11 14 := ⟨_, rfl, by decide, rfl, (lw_i4 _ (List.mem_of_getElem? (i := 190) rfl))⟩
theorem fl_Mo_51 : qk_fl "QuakeLinkModel" 51 11 15 := ⟨_, rfl, by decide, rfl, (lw_i4 _ (List.mem_of_getElem? (i := 191) rfl))⟩
theorem fl_Mo_54 : qk_fl "QuakeLinkModel" 54 11 16 := ⟨_, rfl, by decide, rfl, (lw_i4 _ (List.mem_of_getElem? (i := 192) rfl))⟩
theorem fl_Mo_57 : qk_fl "QuakeLinkModel" 57 11 18 := ⟨_, rfl, by decide, rfl, (lw_i4 _ (List.mem_of_getElem? (i := 194) rfl))⟩
theorem fl_Mo_60 : qk_fl "QuakeLinkModel" 60 11 19 := ⟨_, rfl, by decide, rfl, (lw_i4 _ (List.mem_of_getElem? (i := 195) rfl))⟩
theorem fl_Mo_63 : qk_fl "QuakeLinkModel" 63 11 20 := ⟨_, rfl, by decide, rfl, (lw_i4 _ (List.mem_of_getElem? (i := 196) rfl))⟩
theorem fl_Mo_66 : qk_fl "QuakeLinkModel" 66 11 31 := ⟨_, rfl, by decide, rfl, (lw_i4 _ (List.mem_of_getElem? (i := 207) rfl))⟩
theorem d_Mo_init_0 : decode m_Mo_init.2.1 0 = .ok (.aload_n 0, 1) := by decide +kernel
theorem d_Mo_init_1 : decode m_Mo_init.2.1 1 = .ok (.invokespecial 1, 3) := by decide +kernel
theorem d_Mo_init_4 : decode m_Mo_init.2.1 4 = .ok (.aload_n 0, 1) := by decide +kernel
theorem d_Mo_init_5 : decode m_Mo_init.2.1 5 = .ok (.ldc 7, 2) := by decide +kernel
theorem d_Mo_init_7 : decode m_Mo_init.2.1 7 = .ok (.newarray .int, 2) := by decide +kernel
theorem d_Mo_init_9 : decode m_Mo_init.2.1 9 = .ok (.putfield 8, 3) := by decide +kernel
theorem d_Mo_init_12 : decode m_Mo_init.2.1 12 = .ok (.aload_n 0, 1) := by decide +kernel
theorem d_Mo_init_13 : decode m_Mo_init.2.1 13 = .ok (.iconst 4, 1) := by decide +kernel
theorem d_Mo_init_14 : decode m_Mo_init.2.1 14 = .ok (.newarray .int, 2) := by decide +kernel
theorem d_Mo_init_16 : decode m_Mo_init.2.1 16 = .ok (.putfield 14, 3) := by decide +kernel
theorem d_Mo_init_19 : decode m_Mo_init.2.1 19 = .ok (.aload_n 0, 1) := by decide +kernel
theorem d_Mo_init_20 : decode m_Mo_init.2.1 20 = .ok (.iconst 4, 1) := by decide +kernel
theorem d_Mo_init_21 : decode m_Mo_init.2.1 21 = .ok (.newarray .int, 2) := by decide +kernel
theorem d_Mo_init_23 : decode m_Mo_init.2.1 23 = .ok (.putfield 17, 3) := by decide +kernel
theorem d_Mo_init_26 : decode m_Mo_init.2.1 26 = .ok (.aload_n 0, 1) := by decide +kernel
theorem d_Mo_init_27 : decode m_Mo_init.2.1 27 = .ok (.iconst 4, 1) := by decide +kernel
theorem d_Mo_init_28 : decode m_Mo_init.2.1 28 = .ok (.newarray .int, 2) := by decide +kernel
theorem d_Mo_init_30 : decode m_Mo_init.2.1 30 = .ok (.putfield 20, 3) := by decide +kernel
theorem d_Mo_init_33 : decode m_Mo_init.2.1 33 = .ok (.aload_n 0, 1) := by decide +kernel
theorem d_Mo_init_34 : decode m_Mo_init.2.1 34 = .ok (.bipush 100, 2) := by decide +kernel
theorem d_Mo_init_36 : decode m_Mo_init.2.1 36 = .ok (.putfield 23, 3) := by decide +kernel
theorem d_Mo_init_39 : decode m_Mo_init.2.1 39 = .ok (.aload_n 0, 1) := by decide +kernel
theorem d_Mo_init_40 : decode m_Mo_init.2.1 40 = .ok (.sipush 4096, 3) := by decide +kernel
theorem d_Mo_init_43 : decode m_Mo_init.2.1 43 = .ok (.newarray .int, 2) := by decide +kernel
theorem d_Mo_init_45 : decode m_Mo_init.2.1 45 = .ok (.putfield 27, 3) := by decide +kernel
theorem d_Mo_init_48 : decode m_Mo_init.2.1 48 = .ok (.aload_n 0, 1) := by decide +kernel
theorem d_Mo_init_49 : decode m_Mo_init.2.1 49 = .ok (.sipush 4096, 3) := by decide +kernel
theorem d_Mo_init_52 : decode m_Mo_init.2.1 52 = .ok (.newarray .int, 2) := by decide +kernel
theorem d_Mo_init_54 : decode m_Mo_init.2.1 54 = .ok (.putfield 30, 3) := by decide +kernel
theorem d_Mo_init_57 : decode m_Mo_init.2.1 57 = .ok (.aload_n 0, 1) := by decide +kernel
theorem d_Mo_init_58 : decode m_Mo_init.2.1 58 = .ok (.sipush 4096, 3) := by decide +kernel
theorem d_Mo_init_61 : decode m_Mo_init.2.1 61 = .ok (.newarray .int, 2) := by decide +kernel
theorem d_Mo_init_63 : decode m_Mo_init.2.1 63 = .ok (.putfield 33, 3) := by decide +kernel
theorem d_Mo_init_66 : decode m_Mo_init.2.1 66 = .ok (.aload_n 0, 1) := by decide +kernel
theorem d_Mo_init_67 : decode m_Mo_init.2.1 67 = .ok (.sipush 4096, 3) := by decide +kernel
theorem d_Mo_init_70 : decode m_Mo_init.2.1 70 = .ok (.newarray .int, 2) := by decide +kernel
theorem d_Mo_init_72 : decode m_Mo_init.2.1 72 = .ok (.putfield 36, 3) := by decide +kernel
theorem d_Mo_init_75 : decode m_Mo_init.2.1 75 = .ok (.aload_n 0, 1) := by decide +kernel
theorem d_Mo_init_76 : decode m_Mo_init.2.1 76 = .ok (.sipush 4096, 3) := by decide +kernel
theorem d_Mo_init_79 : decode m_Mo_init.2.1 79 = .ok (.newarray .boolean, 2) := by decide +kernel
theorem d_Mo_init_81 : decode m_Mo_init.2.1 81 = .ok (.putfield 39, 3) := by decide +kernel
theorem d_Mo_init_84 : decode m_Mo_init.2.1 84 = .ok (.aload_n 0, 1) := by decide +kernel
theorem d_Mo_init_85 : decode m_Mo_init.2.1 85 = .ok (.ldc 7, 2) := by decide +kernel
theorem d_Mo_init_87 : decode m_Mo_init.2.1 87 = .ok (.newarray .boolean, 2) := by decide +kernel
theorem d_Mo_init_89 : decode m_Mo_init.2.1 89 = .ok (.putfield 43, 3) := by decide +kernel
theorem d_Mo_init_92 : decode m_Mo_init.2.1 92 = .ok (.aload_n 0, 1) := by decide +kernel
theorem d_Mo_init_93 : decode m_Mo_init.2.1 93 = .ok (.ldc 46, 2) := by decide +kernel
theorem d_Mo_init_95 : decode m_Mo_init.2.1 95 = .ok (.newarray .byte, 2) := by decide +kernel
theorem d_Mo_init_97 : decode m_Mo_init.2.1 97 = .ok (.putfield 47, 3) := by decide +kernel
theorem d_Mo_init_100 : decode m_Mo_init.2.1 100 = .ok (.aload_n 0, 1) := by decide +kernel
theorem d_Mo_init_101 : decode m_Mo_init.2.1 101 = .ok (.bipush 64, 2) := by decide +kernel
theorem d_Mo_init_103 : decode m_Mo_init.2.1 103 = .ok (.newarray .int, 2) := by decide +kernel
theorem d_Mo_init_105 : decode m_Mo_init.2.1 105 = .ok (.putfield 51, 3) := by decide +kernel
theorem d_Mo_init_108 : decode m_Mo_init.2.1 108 = .ok (.aload_n 0, 1) := by decide +kernel
theorem d_Mo_init_109 : decode m_Mo_init.2.1 109 = .ok (.bipush 64, 2) := by decide +kernel
theorem d_Mo_init_111 : decode m_Mo_init.2.1 111 = .ok (.newarray .boolean, 2) := by decide +kernel
theorem d_Mo_init_113 : decode m_Mo_init.2.1 113 = .ok (.putfield 54, 3) := by decide +kernel
theorem d_Mo_init_116 : decode m_Mo_init.2.1 116 = .ok (.aload_n 0, 1) := by decide +kernel
theorem d_Mo_init_117 : decode m_Mo_init.2.1 117 = .ok (.ldc 7, 2) := by decide +kernel
theorem d_Mo_init_119 : decode m_Mo_init.2.1 119 = .ok (.newarray .int, 2) := by decide +kernel
theorem d_Mo_init_121 : decode m_Mo_init.2.1 121 = .ok (.putfield 57, 3) := by decide +kernel
theorem d_Mo_init_124 : decode m_Mo_init.2.1 124 = .ok (.aload_n 0, 1) := by decide +kernel
theorem d_Mo_init_125 : decode m_Mo_init.2.1 125 = .ok (.ldc 7, 2) := by decide +kernel
theorem d_Mo_init_127 : decode m_Mo_init.2.1 127 = .ok (.newarray .byte, 2) := by decide +kernel
theorem d_Mo_init_129 : decode m_Mo_init.2.1 129 = .ok (.putfield 60, 3) := by decide +kernel
theorem d_Mo_init_132 : decode m_Mo_init.2.1 132 = .ok (.aload_n 0, 1) := by decide +kernel
theorem d_Mo_init_133 : decode m_Mo_init.2.1 133 = .ok (.iconst 4, 1) := by decide +kernel
theorem d_Mo_init_134 : decode m_Mo_init.2.1 134 = .ok (.newarray .int, 2) := by decide +kernel
theorem d_Mo_init_136 : decode m_Mo_init.2.1 136 = .ok (.putfield 63, 3) := by decide +kernel
theorem d_Mo_init_139 : decode m_Mo_init.2.1 139 = .ok (.aload_n 0, 1) := by decide +kernel
theorem d_Mo_init_140 : decode m_Mo_init.2.1 140 = .ok (.ldc 46, 2) := by decide +kernel
theorem d_Mo_init_142 : decode m_Mo_init.2.1 142 = .ok (.newarray .int, 2) := by decide +kernel
theorem d_Mo_init_144 : decode m_Mo_init.2.1 144 = .ok (.putfield 66, 3) := by decide +kernel
theorem d_Mo_init_147 : decode m_Mo_init.2.1 147 = .ok (.return_, 1) := by decide +kernel
theorem t_Mo_init_0 {d : Nat} {st : List Value} {a0 : Nat} {w : qk_W} {nc ns : Nat} {Q : Option Value ⊕ Nat → qk_W → Nat → Nat → Prop}  (h8 : (st.map fun v => Value.category v).sum ≤ 8) (k : Ev (d + 1) m_Mo_init 4 [some (.ref a0)] st w nc ns Q) : Ev (d + 1) m_Mo_init 0 [some (.ref a0)] st w nc ns Q := by
  refine ev_aload_n d_Mo_init_0 rfl rfl ?_
  exact ev_obj d_Mo_init_1 ob_Mo_1 ob_inst ob_code (by omega) h8 k
theorem t_Mo_init_4 {d : Nat} {st : List Value} {v0 : Value} {w : qk_W} {nc ns : Nat} {Q : Option Value ⊕ Nat → qk_W → Nat → Nat → Prop} (hv0 : qk_isr v0 = true) (v : Nat) (hv : 16 ≤ v) (hn : w v = none) (k : Ev d m_Mo_init 9 [some v0] (.ref v :: v0 :: st) (qk_set w v (.inl (.int, (131072, .inl (fun _ => 0))))) (nc + 1) (ns + 131072) Q) : Ev d m_Mo_init 4 [some v0] st w nc ns Q := by
  refine ev_aload_n d_Mo_init_4 rfl hv0 ?_
  refine ev_ldc 131072 d_Mo_init_5 lc_Mo_7 ?_
  exact ev_newa v (131072, .inl (fun _ => 0)) d_Mo_init_7 rfl (by decide) (lw_i1 _ (List.mem_of_getElem? (i := 57) rfl)) (fun C h => by cases h) (fun cA => rfl) (fun ρ => rfl) (fun w => trivial) (by decide) (by decide) (by decide) hv hn k
theorem t_Mo_init_9 {d : Nat} {st : List Value} {o0 : Option Value} {s0 : Value} {b1 : Nat} {fs2 : List Value} {w : qk_W} {nc ns : Nat} {Q : Option Value ⊕ Nat → qk_W → Nat → Nat → Prop} (hs0 : qk_isr s0 = true) (hw1 : wo w b1 11 fs2) (hk : 1 < fs2.length) (hz : qk_fit (qk_fty 11 1) s0 = true) (k : Ev d m_Mo_init 12 [o0] st (qk_set w b1 (.inr (11, fs2.set 1 (s0)))) nc ns Q) : Ev d m_Mo_init 9 [o0] (s0 :: .ref b1 :: st) w nc ns Q := by
  exact ev_putF d_Mo_init_9 fl_Mo_8 rfl rfl rfl hw1.1 hw1.2 hk hz k
theorem t_Mo_init_12 {d : Nat} {st : List Value} {v0 : Value} {w : qk_W} {nc ns : Nat} {Q : Option Value ⊕ Nat → qk_W → Nat → Nat → Prop} (hv0 : qk_isr v0 = true) (v : Nat) (hv : 16 ≤ v) (hn : w v = none) (k : Ev d m_Mo_init 16 [some v0] (.ref v :: v0 :: st) (qk_set w v (.inl (.int, (4, .inl (fun _ => 0))))) (nc + 1) (ns + 4) Q) : Ev d m_Mo_init 12 [some v0] st w nc ns Q := by
  refine ev_aload_n d_Mo_init_12 rfl hv0 ?_
  refine ev_iconst 4 d_Mo_init_13 (by decide) ?_
  exact ev_newa v (4, .inl (fun _ => 0)) d_Mo_init_14 rfl (by decide) (lw_i1 _ (List.mem_of_getElem? (i := 57) rfl)) (fun C h => by cases h) (fun cA => rfl) (fun ρ => rfl) (fun w => trivial) (by decide) (by decide) (by decide) hv hn k
theorem t_Mo_init_16 {d : Nat} {st : List Value} {o0 : Option Value} {s0 : Value} {b1 : Nat} {fs2 : List Value} {w : qk_W} {nc ns : Nat} {Q : Option Value ⊕ Nat → qk_W → Nat → Nat → Prop} (hs0 : qk_isr s0 = true) (hw1 : wo w b1 11 fs2) (hk : 2 < fs2.length) (hz : qk_fit (qk_fty 11 2) s0 = true) (k : Ev d m_Mo_init 19 [o0] st (qk_set w b1 (.inr (11, fs2.set 2 (s0)))) nc ns Q) : Ev d m_Mo_init 16 [o0] (s0 :: .ref b1 :: st) w nc ns Q := by
  exact ev_putF d_Mo_init_16 fl_Mo_14 rfl rfl rfl hw1.1 hw1.2 hk hz k
theorem t_Mo_init_19 {d : Nat} {st : List Value} {v0 : Value} {w : qk_W} {nc ns : Nat} {Q : Option Value ⊕ Nat → qk_W → Nat → Nat → Prop} (hv0 : qk_isr v0 = true) (v : Nat) (hv : 16 ≤ v) (hn : w v = none) (k : Ev d m_Mo_init 23 [some v0] (.ref v :: v0 :: st) (qk_set w v (.inl (.int, (4, .inl (fun _ => 0))))) (nc + 1) (ns + 4) Q) : Ev d m_Mo_init 19 [some v0] st w nc ns Q := by
  refine ev_aload_n d_Mo_init_19 rfl hv0 ?_
  refine ev_iconst 4 d_Mo_init_20 (by decide) ?_
  exact ev_newa v (4, .inl (fun _ => 0)) d_Mo_init_21 rfl (by decide) (lw_i1 _ (List.mem_of_getElem? (i := 57) rfl)) (fun C h => by cases h) (fun cA => rfl) (fun ρ => rfl) (fun w => trivial) (by decide) (by decide) (by decide) hv hn k
theorem t_Mo_init_23 {d : Nat} {st : List Value} {o0 : Option Value} {s0 : Value} {b1 : Nat} {fs2 : List Value} {w : qk_W} {nc ns : Nat} {Q : Option Value ⊕ Nat → qk_W → Nat → Nat → Prop} (hs0 : qk_isr s0 = true) (hw1 : wo w b1 11 fs2) (hk : 3 < fs2.length) (hz : qk_fit (qk_fty 11 3) s0 = true) (k : Ev d m_Mo_init 26 [o0] st (qk_set w b1 (.inr (11, fs2.set 3 (s0)))) nc ns Q) : Ev d m_Mo_init 23 [o0] (s0 :: .ref b1 :: st) w nc ns Q := by
  exact ev_putF d_Mo_init_23 fl_Mo_17 rfl rfl rfl hw1.1 hw1.2 hk hz k
theorem t_Mo_init_26 {d : Nat} {st : List Value} {v0 : Value} {w : qk_W} {nc ns : Nat} {Q : Option Value ⊕ Nat → qk_W → Nat → Nat → Prop} (hv0 : qk_isr v0 = true) (v : Nat) (hv : 16 ≤ v) (hn : w v = none) (k : Ev d m_Mo_init 30 [some v0] (.ref v :: v0 :: st) (qk_set w v (.inl (.int, (4, .inl (fun _ => 0))))) (nc + 1) (ns + 4) Q) : Ev d m_Mo_init 26 [some v0] st w nc ns Q := by
  refine ev_aload_n d_Mo_init_26 rfl hv0 ?_
  refine ev_iconst 4 d_Mo_init_27 (by decide) ?_
  exact ev_newa v (4, .inl (fun _ => 0)) d_Mo_init_28 rfl (by decide) (lw_i1 _ (List.mem_of_getElem? (i := 57) rfl)) (fun C h => by cases h) (fun cA => rfl) (fun ρ => rfl) (fun w => trivial) (by decide) (by decide) (by decide) hv hn k
theorem t_Mo_init_30 {d : Nat} {st : List Value} {o0 : Option Value} {s0 : Value} {b1 : Nat} {fs2 : List Value} {w : qk_W} {nc ns : Nat} {Q : Option Value ⊕ Nat → qk_W → Nat → Nat → Prop} (hs0 : qk_isr s0 = true) (hw1 : wo w b1 11 fs2) (hk : 4 < fs2.length) (hz : qk_fit (qk_fty 11 4) s0 = true) (k : Ev d m_Mo_init 33 [o0] st (qk_set w b1 (.inr (11, fs2.set 4 (s0)))) nc ns Q) : Ev d m_Mo_init 30 [o0] (s0 :: .ref b1 :: st) w nc ns Q := by
  exact ev_putF d_Mo_init_30 fl_Mo_20 rfl rfl rfl hw1.1 hw1.2 hk hz k
theorem t_Mo_init_33 {d : Nat} {st : List Value} {a0 : Nat} {fs2 : List Value} {w : qk_W} {nc ns : Nat} {Q : Option Value ⊕ Nat → qk_W → Nat → Nat → Prop}  (hw1 : wo w a0 11 fs2) (hk : 5 < fs2.length) (k : Ev d m_Mo_init 39 [some (.ref a0)] st (qk_set w a0 (.inr (11, fs2.set 5 (.int 100)))) nc ns Q) : Ev d m_Mo_init 33 [some (.ref a0)] st w nc ns Q := by
  refine ev_aload_n d_Mo_init_33 rfl rfl ?_
  refine ev_bipush 100 d_Mo_init_34 (by decide) ?_
  exact ev_putf d_Mo_init_36 fl_Mo_23 rfl hw1.1 hw1.2 hk (qk_fitI _) k
theorem t_Mo_init_39 {d : Nat} {st : List Value} {v0 : Value} {w : qk_W} {nc ns : Nat} {Q : Option Value ⊕ Nat → qk_W → Nat → Nat → Prop} (hv0 : qk_isr v0 = true) (v : Nat) (hv : 16 ≤ v) (hn : w v = none) (k : Ev d m_Mo_init 45 [some v0] (.ref v :: v0 :: st) (qk_set w v (.inl (.int, (4096, .inl (fun _ => 0))))) (nc + 1) (ns + 4096) Q) : Ev d m_Mo_init 39 [some v0] st w nc ns Q := by
  refine ev_aload_n d_Mo_init_39 rfl hv0 ?_
  refine ev_sipush 4096 d_Mo_init_40 (by decide) ?_
  exact ev_newa v (4096, .inl (fun _ => 0)) d_Mo_init_43 rfl (by decide) (lw_i1 _ (List.mem_of_getElem? (i := 57) rfl)) (fun C h => by cases h) (fun cA => rfl) (fun ρ => rfl) (fun w => trivial) (by decide) (by decide) (by decide) hv hn k
theorem t_Mo_init_45 {d : Nat} {st : List Value} {o0 : Option Value} {s0 : Value} {b1 : Nat} {fs2 : List Value} {w : qk_W} {nc ns : Nat} {Q : Option Value ⊕ Nat → qk_W → Nat → Nat → Prop} (hs0 : qk_isr s0 = true) (hw1 : wo w b1 11 fs2) (hk : 6 < fs2.length) (hz : qk_fit (qk_fty 11 6) s0 = true) (k : Ev d m_Mo_init 48 [o0] st (qk_set w b1 (.inr (11, fs2.set 6 (s0)))) nc ns Q) : Ev d m_Mo_init 45 [o0] (s0 :: .ref b1 :: st) w nc ns Q := by
  exact ev_putF d_Mo_init_45 fl_Mo_27 rfl rfl rfl hw1.1 hw1.2 hk hz k
theorem t_Mo_init_48 {d : Nat} {st : List Value} {v0 : Value} {w : qk_W} {nc ns : Nat} {Q : Option Value ⊕ Nat → qk_W → Nat → Nat → Prop} (hv0 : qk_isr v0 = true) (v : Nat) (hv : 16 ≤ v) (hn : w v = none) (k : Ev d m_Mo_init 54 [some v0] (.ref v :: v0 :: st) (qk_set w v (.inl (.int, (4096, .inl (fun _ => 0))))) (nc + 1) (ns + 4096) Q) : Ev d m_Mo_init 48 [some v0] st w nc ns Q := by
  refine ev_aload_n d_Mo_init_48 rfl hv0 ?_
  refine ev_sipush 4096 d_Mo_init_49 (by decide) ?_
  exact ev_newa v (4096, .inl (fun _ => 0)) d_Mo_init_52 rfl (by decide) (lw_i1 _ (List.mem_of_getElem? (i := 57) rfl)) (fun C h => by cases h) (fun cA => rfl) (fun ρ => rfl) (fun w => trivial) (by decide) (by decide) (by decide) hv hn k
theorem t_Mo_init_54 {d : Nat} {st : List Value} {o0 : Option Value} {s0 : Value} {b1 : Nat} {fs2 : List Value} {w : qk_W} {nc ns : Nat} {Q : Option Value ⊕ Nat → qk_W → Nat → Nat → Prop} (hs0 : qk_isr s0 = true) (hw1 : wo w b1 11 fs2) (hk : 7 < fs2.length) (hz : qk_fit (qk_fty 11 7) s0 = true) (k : Ev d m_Mo_init 57 [o0] st (qk_set w b1 (.inr (11, fs2.set 7 (s0)))) nc ns Q) : Ev d m_Mo_init 54 [o0] (s0 :: .ref b1 :: st) w nc ns Q := by
  exact ev_putF d_Mo_init_54 fl_Mo_30 rfl rfl rfl hw1.1 hw1.2 hk hz k
theorem t_Mo_init_57 {d : Nat} {st : List Value} {v0 : Value} {w : qk_W} {nc ns : Nat} {Q : Option Value ⊕ Nat → qk_W → Nat → Nat → Prop} (hv0 : qk_isr v0 = true) (v : Nat) (hv : 16 ≤ v) (hn : w v = none) (k : Ev d m_Mo_init 63 [some v0] (.ref v :: v0 :: st) (qk_set w v (.inl (.int, (4096, .inl (fun _ => 0))))) (nc + 1) (ns + 4096) Q) : Ev d m_Mo_init 57 [some v0] st w nc ns Q := by
  refine ev_aload_n d_Mo_init_57 rfl hv0 ?_
  refine ev_sipush 4096 d_Mo_init_58 (by decide) ?_
  exact ev_newa v (4096, .inl (fun _ => 0)) d_Mo_init_61 rfl (by decide) (lw_i1 _ (List.mem_of_getElem? (i := 57) rfl)) (fun C h => by cases h) (fun cA => rfl) (fun ρ => rfl) (fun w => trivial) (by decide) (by decide) (by decide) hv hn k
theorem t_Mo_init_63 {d : Nat} {st : List Value} {o0 : Option Value} {s0 : Value} {b1 : Nat} {fs2 : List Value} {w : qk_W} {nc ns : Nat} {Q : Option Value ⊕ Nat → qk_W → Nat → Nat → Prop} (hs0 : qk_isr s0 = true) (hw1 : wo w b1 11 fs2) (hk : 8 < fs2.length) (hz : qk_fit (qk_fty 11 8) s0 = true) (k : Ev d m_Mo_init 66 [o0] st (qk_set w b1 (.inr (11, fs2.set 8 (s0)))) nc ns Q) : Ev d m_Mo_init 63 [o0] (s0 :: .ref b1 :: st) w nc ns Q := by
  exact ev_putF d_Mo_init_63 fl_Mo_33 rfl rfl rfl hw1.1 hw1.2 hk hz k
theorem t_Mo_init_66 {d : Nat} {st : List Value} {v0 : Value} {w : qk_W} {nc ns : Nat} {Q : Option Value ⊕ Nat → qk_W → Nat → Nat → Prop} (hv0 : qk_isr v0 = true) (v : Nat) (hv : 16 ≤ v) (hn : w v = none) (k : Ev d m_Mo_init 72 [some v0] (.ref v :: v0 :: st) (qk_set w v (.inl (.int, (4096, .inl (fun _ => 0))))) (nc + 1) (ns + 4096) Q) : Ev d m_Mo_init 66 [some v0] st w nc ns Q := by
  refine ev_aload_n d_Mo_init_66 rfl hv0 ?_
  refine ev_sipush 4096 d_Mo_init_67 (by decide) ?_
  exact ev_newa v (4096, .inl (fun _ => 0)) d_Mo_init_70 rfl (by decide) (lw_i1 _ (List.mem_of_getElem? (i := 57) rfl)) (fun C h => by cases h) (fun cA => rfl) (fun ρ => rfl) (fun w => trivial) (by decide) (by decide) (by decide) hv hn k
theorem t_Mo_init_72 {d : Nat} {st : List Value} {o0 : Option Value} {s0 : Value} {b1 : Nat} {fs2 : List Value} {w : qk_W} {nc ns : Nat} {Q : Option Value ⊕ Nat → qk_W → Nat → Nat → Prop} (hs0 : qk_isr s0 = true) (hw1 : wo w b1 11 fs2) (hk : 9 < fs2.length) (hz : qk_fit (qk_fty 11 9) s0 = true) (k : Ev d m_Mo_init 75 [o0] st (qk_set w b1 (.inr (11, fs2.set 9 (s0)))) nc ns Q) : Ev d m_Mo_init 72 [o0] (s0 :: .ref b1 :: st) w nc ns Q := by
  exact ev_putF d_Mo_init_72 fl_Mo_36 rfl rfl rfl hw1.1 hw1.2 hk hz k
theorem t_Mo_init_75 {d : Nat} {st : List Value} {v0 : Value} {w : qk_W} {nc ns : Nat} {Q : Option Value ⊕ Nat → qk_W → Nat → Nat → Prop} (hv0 : qk_isr v0 = true) (v : Nat) (hv : 16 ≤ v) (hn : w v = none) (k : Ev d m_Mo_init 81 [some v0] (.ref v :: v0 :: st) (qk_set w v (.inl (.boolean, (4096, .inl (fun _ => 0))))) (nc + 1) (ns + 4096) Q) : Ev d m_Mo_init 75 [some v0] st w nc ns Q := by
  refine ev_aload_n d_Mo_init_75 rfl hv0 ?_
  refine ev_sipush 4096 d_Mo_init_76 (by decide) ?_
  exact ev_newa v (4096, .inl (fun _ => 0)) d_Mo_init_79 rfl (by decide) (lw_i5 _ (List.mem_of_getElem? (i := 39) rfl)) (fun C h => by cases h) (fun cA => rfl) (fun ρ => rfl) (fun w => trivial) (by decide) (by decide) (by decide) hv hn k
theorem t_Mo_init_81 {d : Nat} {st : List Value} {o0 : Option Value} {s0 : Value} {b1 : Nat} {fs2 : List Value} {w : qk_W} {nc ns : Nat} {Q : Option Value ⊕ Nat → qk_W → Nat → Nat → Prop} (hs0 : qk_isr s0 = true) (hw1 : wo w b1 11 fs2) (hk : 10 < fs2.length) (hz : qk_fit (qk_fty 11 10) s0 = true) (k : Ev d m_Mo_init 84 [o0] st (qk_set w b1 (.inr (11, fs2.set 10 (s0)))) nc ns Q) : Ev d m_Mo_init 81 [o0] (s0 :: .ref b1 :: st) w nc ns Q := by
  exact ev_putF d_Mo_init_81 fl_Mo_39 rfl rfl rfl hw1.1 hw1.2 hk hz k
theorem t_Mo_init_84 {d : Nat} {st : List Value} {v0 : Value} {w : qk_W} {nc ns : Nat} {Q : Option Value ⊕ Nat → qk_W → Nat → Nat → Prop} (hv0 : qk_isr v0 = true) (v : Nat) (hv : 16 ≤ v) (hn : w v = none) (k : Ev d m_Mo_init 89 [some v0] (.ref v :: v0 :: st) (qk_set w v (.inl (.boolean, (131072, .inl (fun _ => 0))))) (nc + 1) (ns + 131072) Q) : Ev d m_Mo_init 84 [some v0] st w nc ns Q := by
  refine ev_aload_n d_Mo_init_84 rfl hv0 ?_
  refine ev_ldc 131072 d_Mo_init_85 lc_Mo_7 ?_
  exact ev_newa v (131072, .inl (fun _ => 0)) d_Mo_init_87 rfl (by decide) (lw_i5 _ (List.mem_of_getElem? (i := 39) rfl)) (fun C h => by cases h) (fun cA => rfl) (fun ρ => rfl) (fun w => trivial) (by decide) (by decide) (by decide) hv hn k
theorem t_Mo_init_89 {d : Nat} {st : List Value} {o0 : Option Value} {s0 : Value} {b1 : Nat} {fs2 : List Value} {w : qk_W} {nc ns : Nat} {Q : Option Value ⊕ Nat → qk_W → Nat → Nat → Prop} (hs0 : qk_isr s0 = true) (hw1 : wo w b1 11 fs2) (hk : 12 < fs2.length) (hz : qk_fit (qk_fty 11 12) s0 = true) (k : Ev d m_Mo_init 92 [o0] st (qk_set w b1 (.inr (11, fs2.set 12 (s0)))) nc ns Q) : Ev d m_Mo_init 89 [o0] (s0 :: .ref b1 :: st) w nc ns Q := by
  exact ev_putF d_Mo_init_89 fl_Mo_43 rfl rfl rfl hw1.1 hw1.2 hk hz k
theorem t_Mo_init_92 {d : Nat} {st : List Value} {v0 : Value} {w : qk_W} {nc ns : Nat} {Q : Option Value ⊕ Nat → qk_W → Nat → Nat → Prop} (hv0 : qk_isr v0 = true) (v : Nat) (hv : 16 ≤ v) (hn : w v = none) (k : Ev d m_Mo_init 97 [some v0] (.ref v :: v0 :: st) (qk_set w v (.inl (.byte, (32768, .inl (fun _ => 0))))) (nc + 1) (ns + 32768) Q) : Ev d m_Mo_init 92 [some v0] st w nc ns Q := by
  refine ev_aload_n d_Mo_init_92 rfl hv0 ?_
  refine ev_ldc 32768 d_Mo_init_93 lc_Mo_46 ?_
  exact ev_newa v (32768, .inl (fun _ => 0)) d_Mo_init_95 rfl (by decide) (lw_i2 _ (List.mem_of_getElem? (i := 6) rfl)) (fun C h => by cases h) (fun cA => rfl) (fun ρ => rfl) (fun w => trivial) (by decide) (by decide) (by decide) hv hn k
theorem t_Mo_init_97 {d : Nat} {st : List Value} {o0 : Option Value} {s0 : Value} {b1 : Nat} {fs2 : List Value} {w : qk_W} {nc ns : Nat} {Q : Option Value ⊕ Nat → qk_W → Nat → Nat → Prop} (hs0 : qk_isr s0 = true) (hw1 : wo w b1 11 fs2) (hk : 14 < fs2.length) (hz : qk_fit (qk_fty 11 14) s0 = true) (k : Ev d m_Mo_init 100 [o0] st (qk_set w b1 (.inr (11, fs2.set 14 (s0)))) nc ns Q) : Ev d m_Mo_init 97 [o0] (s0 :: .ref b1 :: st) w nc ns Q := by
  exact ev_putF d_Mo_init_97 fl_Mo_47 rfl rfl rfl hw1.1 hw1.2 hk hz k
theorem t_Mo_init_100 {d : Nat} {st : List Value} {v0 : Value} {w : qk_W} {nc ns : Nat} {Q : Option Value ⊕ Nat → qk_W → Nat → Nat → Prop} (hv0 : qk_isr v0 = true) (v : Nat) (hv : 16 ≤ v) (hn : w v = none) (k : Ev d m_Mo_init 105 [some v0] (.ref v :: v0 :: st) (qk_set w v (.inl (.int, (64, .inl (fun _ => 0))))) (nc + 1) (ns + 64) Q) : Ev d m_Mo_init 100 [some v0] st w nc ns Q := by
  refine ev_aload_n d_Mo_init_100 rfl hv0 ?_
  refine ev_bipush 64 d_Mo_init_101 (by decide) ?_
  exact ev_newa v (64, .inl (fun _ => 0)) d_Mo_init_103 rfl (by decide) (lw_i1 _ (List.mem_of_getElem? (i := 57) rfl)) (fun C h => by cases h) (fun cA => rfl) (fun ρ => rfl) (fun w => trivial) (by decide) (by decide) (by decide) hv hn k
theorem t_Mo_init_105 {d : Nat} {st : List Value} {o0 : Option Value} {s0 : Value} {b1 : Nat} {fs2 : List Value} {w : qk_W} {nc ns : Nat} {Q : Option Value ⊕ Nat → qk_W → Nat → Nat → Prop} (hs0 : qk_isr s0 = true) (hw1 : wo w b1 11 fs2) (hk : 15 < fs2.length) (hz : qk_fit (qk_fty 11 15) s0 = true) (k : Ev d m_Mo_init 108 [o0] st (qk_set w b1 (.inr (11, fs2.set 15 (s0)))) nc ns Q) : Ev d m_Mo_init 105 [o0] (s0 :: .ref b1 :: st) w nc ns Q := by
  exact ev_putF d_Mo_init_105 fl_Mo_51 rfl rfl rfl hw1.1 hw1.2 hk hz k
theorem t_Mo_init_108 {d : Nat} {st : List Value} {v0 : Value} {w : qk_W} {nc ns : Nat} {Q : Option Value ⊕ Nat → qk_W → Nat → Nat → Prop} (hv0 : qk_isr v0 = true) (v : Nat) (hv : 16 ≤ v) (hn : w v = none) (k : Ev d m_Mo_init 113 [some v0] (.ref v :: v0 :: st) (qk_set w v (.inl (.boolean, (64, .inl (fun _ => 0))))) (nc + 1) (ns + 64) Q) : Ev d m_Mo_init 108 [some v0] st w nc ns Q := by
  refine ev_aload_n d_Mo_init_108 rfl hv0 ?_
  refine ev_bipush 64 d_Mo_init_109 (by decide) ?_
  exact ev_newa v (64, .inl (fun _ => 0)) d_Mo_init_111 rfl (by decide) (lw_i5 _ (List.mem_of_getElem? (i := 39) rfl)) (fun C h => by cases h) (fun cA => rfl) (fun ρ => rfl) (fun w => trivial) (by decide) (by decide) (by decide) hv hn k
theorem t_Mo_init_113 {d : Nat} {st : List Value} {o0 : Option Value} {s0 : Value} {b1 : Nat} {fs2 : List Value} {w : qk_W} {nc ns : Nat} {Q : Option Value ⊕ Nat → qk_W → Nat → Nat → Prop} (hs0 : qk_isr s0 = true) (hw1 : wo w b1 11 fs2) (hk : 16 < fs2.length) (hz : qk_fit (qk_fty 11 16) s0 = true) (k : Ev d m_Mo_init 116 [o0] st (qk_set w b1 (.inr (11, fs2.set 16 (s0)))) nc ns Q) : Ev d m_Mo_init 113 [o0] (s0 :: .ref b1 :: st) w nc ns Q := by
  exact ev_putF d_Mo_init_113 fl_Mo_54 rfl rfl rfl hw1.1 hw1.2 hk hz k
theorem t_Mo_init_116 {d : Nat} {st : List Value} {v0 : Value} {w : qk_W} {nc ns : Nat} {Q : Option Value ⊕ Nat → qk_W → Nat → Nat → Prop} (hv0 : qk_isr v0 = true) (v : Nat) (hv : 16 ≤ v) (hn : w v = none) (k : Ev d m_Mo_init 121 [some v0] (.ref v :: v0 :: st) (qk_set w v (.inl (.int, (131072, .inl (fun _ => 0))))) (nc + 1) (ns + 131072) Q) : Ev d m_Mo_init 116 [some v0] st w nc ns Q := by
  refine ev_aload_n d_Mo_init_116 rfl hv0 ?_
  refine ev_ldc 131072 d_Mo_init_117 lc_Mo_7 ?_
  exact ev_newa v (131072, .inl (fun _ => 0)) d_Mo_init_119 rfl (by decide) (lw_i1 _ (List.mem_of_getElem? (i := 57) rfl)) (fun C h => by cases h) (fun cA => rfl) (fun ρ => rfl) (fun w => trivial) (by decide) (by decide) (by decide) hv hn k
theorem t_Mo_init_121 {d : Nat} {st : List Value} {o0 : Option Value} {s0 : Value} {b1 : Nat} {fs2 : List Value} {w : qk_W} {nc ns : Nat} {Q : Option Value ⊕ Nat → qk_W → Nat → Nat → Prop} (hs0 : qk_isr s0 = true) (hw1 : wo w b1 11 fs2) (hk : 18 < fs2.length) (hz : qk_fit (qk_fty 11 18) s0 = true) (k : Ev d m_Mo_init 124 [o0] st (qk_set w b1 (.inr (11, fs2.set 18 (s0)))) nc ns Q) : Ev d m_Mo_init 121 [o0] (s0 :: .ref b1 :: st) w nc ns Q := by
  exact ev_putF d_Mo_init_121 fl_Mo_57 rfl rfl rfl hw1.1 hw1.2 hk hz k
theorem t_Mo_init_124 {d : Nat} {st : List Value} {v0 : Value} {w : qk_W} {nc ns : Nat} {Q : Option Value ⊕ Nat → qk_W → Nat → Nat → Prop} (hv0 : qk_isr v0 = true) (v : Nat) (hv : 16 ≤ v) (hn : w v = none) (k : Ev d m_Mo_init 129 [some v0] (.ref v :: v0 :: st) (qk_set w v (.inl (.byte, (131072, .inl (fun _ => 0))))) (nc + 1) (ns + 131072) Q) : Ev d m_Mo_init 124 [some v0] st w nc ns Q := by
  refine ev_aload_n d_Mo_init_124 rfl hv0 ?_
  refine ev_ldc 131072 d_Mo_init_125 lc_Mo_7 ?_
  exact ev_newa v (131072, .inl (fun _ => 0)) d_Mo_init_127 rfl (by decide) (lw_i2 _ (List.mem_of_getElem? (i := 6) rfl)) (fun C h => by cases h) (fun cA => rfl) (fun ρ => rfl) (fun w => trivial) (by decide) (by decide) (by decide) hv hn k
theorem t_Mo_init_129 {d : Nat} {st : List Value} {o0 : Option Value} {s0 : Value} {b1 : Nat} {fs2 : List Value} {w : qk_W} {nc ns : Nat} {Q : Option Value ⊕ Nat → qk_W → Nat → Nat → Prop} (hs0 : qk_isr s0 = true) (hw1 : wo w b1 11 fs2) (hk : 19 < fs2.length) (hz : qk_fit (qk_fty 11 19) s0 = true) (k : Ev d m_Mo_init 132 [o0] st (qk_set w b1 (.inr (11, fs2.set 19 (s0)))) nc ns Q) : Ev d m_Mo_init 129 [o0] (s0 :: .ref b1 :: st) w nc ns Q := by
  exact ev_putF d_Mo_init_129 fl_Mo_60 rfl rfl rfl hw1.1 hw1.2 hk hz k
theorem t_Mo_init_132 {d : Nat} {st : List Value} {v0 : Value} {w : qk_W} {nc ns : Nat} {Q : Option Value ⊕ Nat → qk_W → Nat → Nat → Prop} (hv0 : qk_isr v0 = true) (v : Nat) (hv : 16 ≤ v) (hn : w v = none) (k : Ev d m_Mo_init 136 [some v0] (.ref v :: v0 :: st) (qk_set w v (.inl (.int, (4, .inl (fun _ => 0))))) (nc + 1) (ns + 4) Q) : Ev d m_Mo_init 132 [some v0] st w nc ns Q := by
  refine ev_aload_n d_Mo_init_132 rfl hv0 ?_
  refine ev_iconst 4 d_Mo_init_133 (by decide) ?_
  exact ev_newa v (4, .inl (fun _ => 0)) d_Mo_init_134 rfl (by decide) (lw_i1 _ (List.mem_of_getElem? (i := 57) rfl)) (fun C h => by cases h) (fun cA => rfl) (fun ρ => rfl) (fun w => trivial) (by decide) (by decide) (by decide) hv hn k
theorem t_Mo_init_136 {d : Nat} {st : List Value} {o0 : Option Value} {s0 : Value} {b1 : Nat} {fs2 : List Value} {w : qk_W} {nc ns : Nat} {Q : Option Value ⊕ Nat → qk_W → Nat → Nat → Prop} (hs0 : qk_isr s0 = true) (hw1 : wo w b1 11 fs2) (hk : 20 < fs2.length) (hz : qk_fit (qk_fty 11 20) s0 = true) (k : Ev d m_Mo_init 139 [o0] st (qk_set w b1 (.inr (11, fs2.set 20 (s0)))) nc ns Q) : Ev d m_Mo_init 136 [o0] (s0 :: .ref b1 :: st) w nc ns Q := by
  exact ev_putF d_Mo_init_136 fl_Mo_63 rfl rfl rfl hw1.1 hw1.2 hk hz k
theorem t_Mo_init_139 {d : Nat} {st : List Value} {v0 : Value} {w : qk_W} {nc ns : Nat} {Q : Option Value ⊕ Nat → qk_W → Nat → Nat → Prop} (hv0 : qk_isr v0 = true) (v : Nat) (hv : 16 ≤ v) (hn : w v = none) (k : Ev d m_Mo_init 144 [some v0] (.ref v :: v0 :: st) (qk_set w v (.inl (.int, (32768, .inl (fun _ => 0))))) (nc + 1) (ns + 32768) Q) : Ev d m_Mo_init 139 [some v0] st w nc ns Q := by
  refine ev_aload_n d_Mo_init_139 rfl hv0 ?_
  refine ev_ldc 32768 d_Mo_init_140 lc_Mo_46 ?_
  exact ev_newa v (32768, .inl (fun _ => 0)) d_Mo_init_142 rfl (by decide) (lw_i1 _ (List.mem_of_getElem? (i := 57) rfl)) (fun C h => by cases h) (fun cA => rfl) (fun ρ => rfl) (fun w => trivial) (by decide) (by decide) (by decide) hv hn k
theorem t_Mo_init_144 {d : Nat} {st : List Value} {o0 : Option Value} {s0 : Value} {b1 : Nat} {fs2 : List Value} {w : qk_W} {nc ns : Nat} {Q : Option Value ⊕ Nat → qk_W → Nat → Nat → Prop} (hs0 : qk_isr s0 = true) (hw1 : wo w b1 11 fs2) (hk : 31 < fs2.length) (hz : qk_fit (qk_fty 11 31) s0 = true) (k : Ev d m_Mo_init 147 [o0] st (qk_set w b1 (.inr (11, fs2.set 31 (s0)))) nc ns Q) : Ev d m_Mo_init 144 [o0] (s0 :: .ref b1 :: st) w nc ns Q := by
  exact ev_putF d_Mo_init_144 fl_Mo_66 rfl rfl rfl hw1.1 hw1.2 hk hz k
theorem t_Mo_init_147 {d : Nat} {o0 : Option Value} {w : qk_W} {nc ns : Nat} {Q : Option Value ⊕ Nat → qk_W → Nat → Nat → Prop}   (hq : Q (.inl none) w nc ns) : Ev d m_Mo_init 147 [o0] [] w nc ns Q := by
  exact ev_vret d_Mo_init_147 rfl hq
/-! Mo_thrown -/
theorem fl_Mo_69 : qk_fl "QuakeLinkModel" 69 11 0 := ⟨_, rfl, by decide, rfl, (lw_i4 _ (List.mem_of_getElem? (i := 176) rfl))⟩
theorem d_Mo_thrown_0 : decode m_Mo_thrown.2.1 0 = .ok (.aload_n 0, 1) := by decide +kernel
theorem d_Mo_thrown_1 : decode m_Mo_thrown.2.1 1 = .ok (.getfield 69, 3) := by decide +kernel
theorem d_Mo_thrown_4 : decode m_Mo_thrown.2.1 4 = .ok (.ireturn, 1) := by decide +kernel
theorem t_Mo_thrown_0 {d : Nat} {a0 : Nat} {fs2 : List Value} {n4 : Int32} {w : qk_W} {nc ns : Nat} {Q : Option Value ⊕ Nat → qk_W → Nat → Nat → Prop}  (hw1 : wo w a0 11 fs2) (hf3 : fs2[0]? = some (.int n4)) (hq : Q (.inl (some (.int n4))) w nc ns) : Ev d m_Mo_thrown 0 [some (.ref a0)] [] w nc ns Q := by
  refine ev_aload_n d_Mo_thrown_0 rfl rfl ?_
  refine ev_getf d_Mo_thrown_1 fl_Mo_69 hw1.1 hw1.2 hf3 ?_
  exact ev_iret d_Mo_thrown_4 rfl rfl hq
/-! Mo_sample -/
theorem cw_Mo_101 : qk_cw "QuakeLinkModel" m_Mo_isChannel.1 (.invokestatic 101) := ⟨Or.inl (lw_i5 _ (List.mem_of_getElem? (i := 48) rfl)), (lw_i5 _ (List.mem_of_getElem? (i := 49) rfl))⟩
theorem cw_Mo_105 : qk_cw "QuakeLinkModel" m_Mo_take.1 (.invokevirtual 105) := ⟨(lw_i5 _ (List.mem_of_getElem? (i := 51) rfl)), (lw_i5 _ (List.mem_of_getElem? (i := 53) rfl)), (lw_i0 _ (List.mem_of_getElem? (i := 21) rfl))⟩
theorem d_Mo_sample_0 : decode m_Mo_sample.2.1 0 = .ok (.aload_n 0, 1) := by decide +kernel
theorem d_Mo_sample_1 : decode m_Mo_sample.2.1 1 = .ok (.iload_n 1, 1) := by decide +kernel
theorem d_Mo_sample_2 : decode m_Mo_sample.2.1 2 = .ok (.invokestatic 101, 3) := by decide +kernel
theorem d_Mo_sample_5 : decode m_Mo_sample.2.1 5 = .ok (.ifCond .ne 7, 3) := by decide +kernel
theorem d_Mo_sample_8 : decode m_Mo_sample.2.1 8 = .ok (.iconst 1, 1) := by decide +kernel
theorem d_Mo_sample_9 : decode m_Mo_sample.2.1 9 = .ok (.goto 19, 3) := by decide +kernel
theorem d_Mo_sample_12 : decode m_Mo_sample.2.1 12 = .ok (.aload_n 0, 1) := by decide +kernel
theorem d_Mo_sample_13 : decode m_Mo_sample.2.1 13 = .ok (.getfield 14, 3) := by decide +kernel
theorem d_Mo_sample_16 : decode m_Mo_sample.2.1 16 = .ok (.iload_n 1, 1) := by decide +kernel
theorem d_Mo_sample_17 : decode m_Mo_sample.2.1 17 = .ok (.iaload, 1) := by decide +kernel
theorem d_Mo_sample_18 : decode m_Mo_sample.2.1 18 = .ok (.ldc 46, 2) := by decide +kernel
theorem d_Mo_sample_20 : decode m_Mo_sample.2.1 20 = .ok (.if_icmp .ne 7, 3) := by decide +kernel
theorem d_Mo_sample_23 : decode m_Mo_sample.2.1 23 = .ok (.iconst 2, 1) := by decide +kernel
theorem d_Mo_sample_24 : decode m_Mo_sample.2.1 24 = .ok (.goto 4, 3) := by decide +kernel
theorem d_Mo_sample_27 : decode m_Mo_sample.2.1 27 = .ok (.iconst 0, 1) := by decide +kernel
theorem d_Mo_sample_28 : decode m_Mo_sample.2.1 28 = .ok (.putfield 69, 3) := by decide +kernel
theorem d_Mo_sample_31 : decode m_Mo_sample.2.1 31 = .ok (.aload_n 0, 1) := by decide +kernel
theorem d_Mo_sample_32 : decode m_Mo_sample.2.1 32 = .ok (.getfield 69, 3) := by decide +kernel
theorem d_Mo_sample_35 : decode m_Mo_sample.2.1 35 = .ok (.ifCond .le 5, 3) := by decide +kernel
theorem d_Mo_sample_38 : decode m_Mo_sample.2.1 38 = .ok (.iconst 0, 1) := by decide +kernel
theorem d_Mo_sample_39 : decode m_Mo_sample.2.1 39 = .ok (.ireturn, 1) := by decide +kernel
theorem d_Mo_sample_40 : decode m_Mo_sample.2.1 40 = .ok (.aload_n 0, 1) := by decide +kernel
theorem d_Mo_sample_41 : decode m_Mo_sample.2.1 41 = .ok (.iload_n 1, 1) := by decide +kernel
theorem d_Mo_sample_42 : decode m_Mo_sample.2.1 42 = .ok (.iload_n 2, 1) := by decide +kernel
theorem d_Mo_sample_43 : decode m_Mo_sample.2.1 43 = .ok (.invokevirtual 105, 3) := by decide +kernel
theorem d_Mo_sample_46 : decode m_Mo_sample.2.1 46 = .ok (.aload_n 0, 1) := by decide +kernel
theorem d_Mo_sample_47 : decode m_Mo_sample.2.1 47 = .ok (.getfield 14, 3) := by decide +kernel
theorem d_Mo_sample_50 : decode m_Mo_sample.2.1 50 = .ok (.iload_n 1, 1) := by decide +kernel
theorem d_Mo_sample_51 : decode m_Mo_sample.2.1 51 = .ok (.iaload, 1) := by decide +kernel
theorem d_Mo_sample_52 : decode m_Mo_sample.2.1 52 = .ok (.iconst 1, 1) := by decide +kernel
theorem d_Mo_sample_53 : decode m_Mo_sample.2.1 53 = .ok (.isub, 1) := by decide +kernel
theorem d_Mo_sample_54 : decode m_Mo_sample.2.1 54 = .ok (.ireturn, 1) := by decide +kernel
theorem t_Mo_sample_0 {d : Nat} {st : List Value} {v0 : Value} {x1 : Int32} {o2 : Option Value} {w : qk_W} {nc ns : Nat} {Q : Option Value ⊕ Nat → qk_W → Nat → Nat → Prop} (hv0 : qk_isr v0 = true) (h8 : ((v0 :: st).map fun v => Value.category v).sum ≤ 8) (k : Ev d m_Mo_isChannel 0 [some (.int x1)] [] w nc ns (fun r w1 nc1 ns1 => match r with | .inl v => Ev (d + 1) m_Mo_sample 5 [some v0, some (.int x1), o2] (v.toList ++ (v0 :: st)) w1 nc1 ns1 Q | .inr x => Q (.inr x) w1 nc1 ns1)) : Ev (d + 1) m_Mo_sample 0 [some v0, some (.int x1), o2] st w nc ns Q := by
  refine ev_aload_n d_Mo_sample_0 rfl hv0 ?_
  refine ev_iload_n d_Mo_sample_1 rfl ?_
  exact ev_call (M' := m_Mo_isChannel) (As := [.int x1]) (st := (v0 :: st)) d_Mo_sample_2 i_Mo_isChannel (fun h => absurd h (by decide +kernel)) cw_Mo_101 rfl rfl trivial rfl (Nat.le_of_ble_eq_true rfl) h8 k
theorem t_Mo_sample_5 {d : Nat} {st : List Value} {o0 : Option Value} {o1 : Option Value} {o2 : Option Value} {y0 : Int32} {w : qk_W} {nc ns : Nat} {Q : Option Value ⊕ Nat → qk_W → Nat → Nat → Prop}   (kt : ¬ y0 = 0 → Ev d m_Mo_sample 12 [o0, o1, o2] st w nc ns Q) (kf : y0 = 0 → Ev d m_Mo_sample 8 [o0, o1, o2] st w nc ns Q) : Ev d m_Mo_sample 5 [o0, o1, o2] (.int y0 :: st) w nc ns Q := by
  exact ev_if_ne 12 d_Mo_sample_5 (by decide) kt kf
theorem t_Mo_sample_8 {d : Nat} {st : List Value} {o0 : Option Value} {o1 : Option Value} {o2 : Option Value} {b0 : Nat} {fs2 : List Value} {w : qk_W} {nc ns : Nat} {Q : Option Value ⊕ Nat → qk_W → Nat → Nat → Prop}  (hw1 : wo w b0 11 fs2) (hk : 0 < fs2.length) (k : Ev d m_Mo_sample 31 [o0, o1, o2] st (qk_set w b0 (.inr (11, fs2.set 0 (.int 1)))) nc ns Q) : Ev d m_Mo_sample 8 [o0, o1, o2] (.ref b0 :: st) w nc ns Q := by
  refine ev_iconst 1 d_Mo_sample_8 (by decide) ?_
  refine ev_goto 28 d_Mo_sample_9 (by decide) ?_
  exact ev_putf d_Mo_sample_28 fl_Mo_69 rfl hw1.1 hw1.2 hk (qk_fitI _) k
theorem t_Mo_sample_12 {d : Nat} {st : List Value} {a0 : Nat} {x1 : Int32} {o2 : Option Value} {fs2 : List Value} {c4 : Nat} {n6 : Nat} {f7 : Nat → Int32} {w : qk_W} {nc ns : Nat} {Q : Option Value ⊕ Nat → qk_W → Nat → Nat → Prop}  (hw1 : wo w a0 11 fs2) (hf3 : fs2[2]? = some (.ref c4)) (ha5 : wi w c4 n6 f7) (hi8 : vp_in x1 n6) (kt : ¬ (f7 x1.toNatClampNeg) = (32768 : Int32) → Ev d m_Mo_sample 27 [some (.ref a0), some (.int x1), o2] st w nc ns Q) (kf : (f7 x1.toNatClampNeg) = (32768 : Int32) → Ev d m_Mo_sample 23 [some (.ref a0), some (.int x1), o2] st w nc ns Q) : Ev d m_Mo_sample 12 [some (.ref a0), some (.int x1), o2] st w nc ns Q := by
  refine ev_aload_n d_Mo_sample_12 rfl rfl ?_
  refine ev_getf d_Mo_sample_13 fl_Mo_14 hw1.1 hw1.2 hf3 ?_
  refine ev_iload_n d_Mo_sample_16 rfl ?_
  refine ev_iald d_Mo_sample_17 ha5 hi8 ?_
  refine ev_ldc 32768 d_Mo_sample_18 lc_Mo_46 ?_
  exact ev_icmp_ne 27 d_Mo_sample_20 (by decide) kt kf
theorem t_Mo_sample_23 {d : Nat} {st : List Value} {o0 : Option Value} {o1 : Option Value} {o2 : Option Value} {b0 : Nat} {fs2 : List Value} {w : qk_W} {nc ns : Nat} {Q : Option Value ⊕ Nat → qk_W → Nat → Nat → Prop}  (hw1 : wo w b0 11 fs2) (hk : 0 < fs2.length) (k : Ev d m_Mo_sample 31 [o0, o1, o2] st (qk_set w b0 (.inr (11, fs2.set 0 (.int 2)))) nc ns Q) : Ev d m_Mo_sample 23 [o0, o1, o2] (.ref b0 :: st) w nc ns Q := by
  refine ev_iconst 2 d_Mo_sample_23 (by decide) ?_
  refine ev_goto 28 d_Mo_sample_24 (by decide) ?_
  exact ev_putf d_Mo_sample_28 fl_Mo_69 rfl hw1.1 hw1.2 hk (qk_fitI _) k
theorem t_Mo_sample_27 {d : Nat} {st : List Value} {o0 : Option Value} {o1 : Option Value} {o2 : Option Value} {b0 : Nat} {fs2 : List Value} {w : qk_W} {nc ns : Nat} {Q : Option Value ⊕ Nat → qk_W → Nat → Nat → Prop}  (hw1 : wo w b0 11 fs2) (hk : 0 < fs2.length) (k : Ev d m_Mo_sample 31 [o0, o1, o2] st (qk_set w b0 (.inr (11, fs2.set 0 (.int 0)))) nc ns Q) : Ev d m_Mo_sample 27 [o0, o1, o2] (.ref b0 :: st) w nc ns Q := by
  refine ev_iconst 0 d_Mo_sample_27 (by decide) ?_
  exact ev_putf d_Mo_sample_28 fl_Mo_69 rfl hw1.1 hw1.2 hk (qk_fitI _) k
theorem t_Mo_sample_31 {d : Nat} {st : List Value} {a0 : Nat} {o1 : Option Value} {o2 : Option Value} {fs2 : List Value} {n4 : Int32} {w : qk_W} {nc ns : Nat} {Q : Option Value ⊕ Nat → qk_W → Nat → Nat → Prop}  (hw1 : wo w a0 11 fs2) (hf3 : fs2[0]? = some (.int n4)) (kt : n4 ≤ 0 → Ev d m_Mo_sample 40 [some (.ref a0), o1, o2] st w nc ns Q) (kf : ¬ (n4 ≤ 0) → Ev d m_Mo_sample 38 [some (.ref a0), o1, o2] st w nc ns Q) : Ev d m_Mo_sample 31 [some (.ref a0), o1, o2] st w nc ns Q := by
  refine ev_aload_n d_Mo_sample_31 rfl rfl ?_
  refine ev_getf d_Mo_sample_32 fl_Mo_69 hw1.1 hw1.2 hf3 ?_
  exact ev_if_le 40 d_Mo_sample_35 (by decide) kt kf
theorem t_Mo_sample_38 {d : Nat} {o0 : Option Value} {o1 : Option Value} {o2 : Option Value} {w : qk_W} {nc ns : Nat} {Q : Option Value ⊕ Nat → qk_W → Nat → Nat → Prop}   (hq : Q (.inl (some (.int 0))) w nc ns) : Ev d m_Mo_sample 38 [o0, o1, o2] [] w nc ns Q := by
  refine ev_iconst 0 d_Mo_sample_38 (by decide) ?_
  exact ev_iret d_Mo_sample_39 rfl rfl hq
theorem t_Mo_sample_40 {d : Nat} {st : List Value} {a0 : Nat} {x1 : Int32} {x2 : Int32} {fsb : List Value} {w : qk_W} {nc ns : Nat} {Q : Option Value ⊕ Nat → qk_W → Nat → Nat → Prop}  (hb : wo w a0 11 fsb) (h8 : (st.map fun v => Value.category v).sum ≤ 8) (k : Ev d m_Mo_take 0 [some (.ref a0), some (.int x1), some (.int x2), none, none, none] [] w nc ns (fun r w1 nc1 ns1 => match r with | .inl v => Ev (d + 1) m_Mo_sample 46 [some (.ref a0), some (.int x1), some (.int x2)] (v.toList ++ st) w1 nc1 ns1 Q | .inr x => Q (.inr x) w1 nc1 ns1)) : Ev (d + 1) m_Mo_sample 40 [some (.ref a0), some (.int x1), some (.int x2)] st w nc ns Q := by
  refine ev_aload_n d_Mo_sample_40 rfl rfl ?_
  refine ev_iload_n d_Mo_sample_41 rfl ?_
  refine ev_iload_n d_Mo_sample_42 rfl ?_
  exact ev_call (M' := m_Mo_take) (As := [.ref a0, .int x1, .int x2]) (st := st) d_Mo_sample_43 i_Mo_take (fun h => absurd h (by decide +kernel)) cw_Mo_105 rfl rfl ⟨hb.1, 11, _, _, hb.2, rfl, rfl⟩ rfl (Nat.le_of_ble_eq_true rfl) h8 k
theorem t_Mo_sample_46 {d : Nat} {a0 : Nat} {x1 : Int32} {o2 : Option Value} {fs2 : List Value} {c4 : Nat} {n6 : Nat} {f7 : Nat → Int32} {w : qk_W} {nc ns : Nat} {Q : Option Value ⊕ Nat → qk_W → Nat → Nat → Prop}  (hw1 : wo w a0 11 fs2) (hf3 : fs2[2]? = some (.ref c4)) (ha5 : wi w c4 n6 f7) (hi8 : vp_in x1 n6) (hq : Q (.inl (some (.int ((f7 x1.toNatClampNeg) - 1)))) w nc ns) : Ev d m_Mo_sample 46 [some (.ref a0), some (.int x1), o2] [] w nc ns Q := by
  refine ev_aload_n d_Mo_sample_46 rfl rfl ?_
  refine ev_getf d_Mo_sample_47 fl_Mo_14 hw1.1 hw1.2 hf3 ?_
  refine ev_iload_n d_Mo_sample_50 rfl ?_
  refine ev_iald d_Mo_sample_51 ha5 hi8 ?_
  refine ev_iconst 1 d_Mo_sample_52 (by decide) ?_
  refine ev_isub d_Mo_sample_53 ?_
  exact ev_iret d_Mo_sample_54 rfl rfl hq
/-! Mo_isChannel -/
theorem d_Mo_isChannel_0 : decode m_Mo_isChannel.2.1 0 = .ok (.iload_n 0, 1) := by decide +kernel
theorem d_Mo_isChannel_1 : decode m_Mo_isChannel.2.1 1 = .ok (.ifCond .lt 12, 3) := by decide +kernel
theorem d_Mo_isChannel_4 : decode m_Mo_isChannel.2.1 4 = .ok (.iload_n 0, 1) := by decide +kernel
theorem d_Mo_isChannel_5 : decode m_Mo_isChannel.2.1 5 = .ok (.iconst 4, 1) := by decide +kernel
theorem d_Mo_isChannel_6 : decode m_Mo_isChannel.2.1 6 = .ok (.if_icmp .ge 7, 3) := by decide +kernel
theorem d_Mo_isChannel_9 : decode m_Mo_isChannel.2.1 9 = .ok (.iconst 1, 1) := by decide +kernel
theorem d_Mo_isChannel_10 : decode m_Mo_isChannel.2.1 10 = .ok (.goto 4, 3) := by decide +kernel
theorem d_Mo_isChannel_13 : decode m_Mo_isChannel.2.1 13 = .ok (.iconst 0, 1) := by decide +kernel
theorem d_Mo_isChannel_14 : decode m_Mo_isChannel.2.1 14 = .ok (.ireturn, 1) := by decide +kernel
theorem t_Mo_isChannel_0 {d : Nat} {st : List Value} {x0 : Int32} {w : qk_W} {nc ns : Nat} {Q : Option Value ⊕ Nat → qk_W → Nat → Nat → Prop}   (kt : x0 < 0 → Ev d m_Mo_isChannel 13 [some (.int x0)] st w nc ns Q) (kf : ¬ (x0 < 0) → Ev d m_Mo_isChannel 4 [some (.int x0)] st w nc ns Q) : Ev d m_Mo_isChannel 0 [some (.int x0)] st w nc ns Q := by
  refine ev_iload_n d_Mo_isChannel_0 rfl ?_
  exact ev_if_lt 13 d_Mo_isChannel_1 (by decide) kt kf
theorem t_Mo_isChannel_4 {d : Nat} {st : List Value} {x0 : Int32} {w : qk_W} {nc ns : Nat} {Q : Option Value ⊕ Nat → qk_W → Nat → Nat → Prop}   (kt : (4 : Int32) ≤ x0 → Ev d m_Mo_isChannel 13 [some (.int x0)] st w nc ns Q) (kf : ¬ ((4 : Int32) ≤ x0) → Ev d m_Mo_isChannel 9 [some (.int x0)] st w nc ns Q) : Ev d m_Mo_isChannel 4 [some (.int x0)] st w nc ns Q := by
  refine ev_iload_n d_Mo_isChannel_4 rfl ?_
  refine ev_iconst 4 d_Mo_isChannel_5 (by decide) ?_
  exact ev_icmp_ge 13 d_Mo_isChannel_6 (by decide) kt kf
theorem t_Mo_isChannel_9 {d : Nat} {o0 : Option Value} {w : qk_W} {nc ns : Nat} {Q : Option Value ⊕ Nat → qk_W → Nat → Nat → Prop}   (hq : Q (.inl (some (.int 1))) w nc ns) : Ev d m_Mo_isChannel 9 [o0] [] w nc ns Q := by
  refine ev_iconst 1 d_Mo_isChannel_9 (by decide) ?_
  refine ev_goto 14 d_Mo_isChannel_10 (by decide) ?_
  exact ev_iret d_Mo_isChannel_14 rfl rfl hq
theorem t_Mo_isChannel_13 {d : Nat} {o0 : Option Value} {w : qk_W} {nc ns : Nat} {Q : Option Value ⊕ Nat → qk_W → Nat → Nat → Prop}   (hq : Q (.inl (some (.int 0))) w nc ns) : Ev d m_Mo_isChannel 13 [o0] [] w nc ns Q := by
  refine ev_iconst 0 d_Mo_isChannel_13 (by decide) ?_
  exact ev_iret d_Mo_isChannel_14 rfl rfl hq
/-! Mo_take -/
theorem cw_Mo_84 : qk_cw "QuakeLinkModel" m_Mo_least.1 (.invokevirtual 84) := ⟨(lw_i5 _ (List.mem_of_getElem? (i := 55) rfl)), (lw_i5 _ (List.mem_of_getElem? (i := 57) rfl)), (lw_i0 _ (List.mem_of_getElem? (i := 22) rfl))⟩
theorem cw_Mo_76 : qk_cw "QuakeLinkModel" m_Mo_widthOf.1 (.invokestatic 76) := ⟨Or.inl (lw_i5 _ (List.mem_of_getElem? (i := 63) rfl)), (lw_i5 _ (List.mem_of_getElem? (i := 64) rfl))⟩
theorem cw_Mo_94 : qk_cw "QuakeLinkModel" m_Mo_sizeOf.1 (.invokevirtual 94) := ⟨(lw_i5 _ (List.mem_of_getElem? (i := 69) rfl)), (lw_i5 _ (List.mem_of_getElem? (i := 71) rfl)), (lw_i0 _ (List.mem_of_getElem? (i := 24) rfl))⟩
theorem cw_Mo_97 : qk_cw "QuakeLinkModel" m_Mo_close.1 (.invokevirtual 97) := ⟨(lw_i5 _ (List.mem_of_getElem? (i := 73) rfl)), (lw_i5 _ (List.mem_of_getElem? (i := 75) rfl)), (lw_i0 _ (List.mem_of_getElem? (i := 25) rfl))⟩
theorem d_Mo_take_0 : decode m_Mo_take.2.1 0 = .ok (.aload_n 0, 1) := by decide +kernel
theorem d_Mo_take_1 : decode m_Mo_take.2.1 1 = .ok (.getfield 8, 3) := by decide +kernel
theorem d_Mo_take_4 : decode m_Mo_take.2.1 4 = .ok (.iload_n 1, 1) := by decide +kernel
theorem d_Mo_take_5 : decode m_Mo_take.2.1 5 = .ok (.ldc 46, 2) := by decide +kernel
theorem d_Mo_take_7 : decode m_Mo_take.2.1 7 = .ok (.imul, 1) := by decide +kernel
theorem d_Mo_take_8 : decode m_Mo_take.2.1 8 = .ok (.aload_n 0, 1) := by decide +kernel
theorem d_Mo_take_9 : decode m_Mo_take.2.1 9 = .ok (.getfield 14, 3) := by decide +kernel
theorem d_Mo_take_12 : decode m_Mo_take.2.1 12 = .ok (.iload_n 1, 1) := by decide +kernel
theorem d_Mo_take_13 : decode m_Mo_take.2.1 13 = .ok (.iaload, 1) := by decide +kernel
theorem d_Mo_take_14 : decode m_Mo_take.2.1 14 = .ok (.iadd, 1) := by decide +kernel
theorem d_Mo_take_15 : decode m_Mo_take.2.1 15 = .ok (.iload_n 2, 1) := by decide +kernel
theorem d_Mo_take_16 : decode m_Mo_take.2.1 16 = .ok (.iastore, 1) := by decide +kernel
theorem d_Mo_take_17 : decode m_Mo_take.2.1 17 = .ok (.aload_n 0, 1) := by decide +kernel
theorem d_Mo_take_18 : decode m_Mo_take.2.1 18 = .ok (.getfield 14, 3) := by decide +kernel
theorem d_Mo_take_21 : decode m_Mo_take.2.1 21 = .ok (.iload_n 1, 1) := by decide +kernel
theorem d_Mo_take_22 : decode m_Mo_take.2.1 22 = .ok (.iaload, 1) := by decide +kernel
theorem d_Mo_take_23 : decode m_Mo_take.2.1 23 = .ok (.aload_n 0, 1) := by decide +kernel
theorem d_Mo_take_24 : decode m_Mo_take.2.1 24 = .ok (.getfield 17, 3) := by decide +kernel
theorem d_Mo_take_27 : decode m_Mo_take.2.1 27 = .ok (.iload_n 1, 1) := by decide +kernel
theorem d_Mo_take_28 : decode m_Mo_take.2.1 28 = .ok (.iaload, 1) := by decide +kernel
theorem d_Mo_take_29 : decode m_Mo_take.2.1 29 = .ok (.isub, 1) := by decide +kernel
theorem d_Mo_take_30 : decode m_Mo_take.2.1 30 = .ok (.iconst 1, 1) := by decide +kernel
theorem d_Mo_take_31 : decode m_Mo_take.2.1 31 = .ok (.iadd, 1) := by decide +kernel
theorem d_Mo_take_32 : decode m_Mo_take.2.1 32 = .ok (.istore_n 3, 1) := by decide +kernel
theorem d_Mo_take_33 : decode m_Mo_take.2.1 33 = .ok (.iload_n 3, 1) := by decide +kernel
theorem d_Mo_take_34 : decode m_Mo_take.2.1 34 = .ok (.iconst 1, 1) := by decide +kernel
theorem d_Mo_take_35 : decode m_Mo_take.2.1 35 = .ok (.if_icmp .le 135, 3) := by decide +kernel
theorem d_Mo_take_38 : decode m_Mo_take.2.1 38 = .ok (.aload_n 0, 1) := by decide +kernel
theorem d_Mo_take_39 : decode m_Mo_take.2.1 39 = .ok (.getfield 20, 3) := by decide +kernel
theorem d_Mo_take_42 : decode m_Mo_take.2.1 42 = .ok (.iload_n 1, 1) := by decide +kernel
theorem d_Mo_take_43 : decode m_Mo_take.2.1 43 = .ok (.iaload, 1) := by decide +kernel
theorem d_Mo_take_44 : decode m_Mo_take.2.1 44 = .ok (.istore 4, 2) := by decide +kernel
theorem d_Mo_take_46 : decode m_Mo_take.2.1 46 = .ok (.iload_n 3, 1) := by decide +kernel
theorem d_Mo_take_47 : decode m_Mo_take.2.1 47 = .ok (.iconst 2, 1) := by decide +kernel
theorem d_Mo_take_48 : decode m_Mo_take.2.1 48 = .ok (.if_icmp .le 43, 3) := by decide +kernel
theorem d_Mo_take_51 : decode m_Mo_take.2.1 51 = .ok (.iload_n 3, 1) := by decide +kernel
theorem d_Mo_take_52 : decode m_Mo_take.2.1 52 = .ok (.iconst 2, 1) := by decide +kernel
theorem d_Mo_take_53 : decode m_Mo_take.2.1 53 = .ok (.isub, 1) := by decide +kernel
theorem d_Mo_take_54 : decode m_Mo_take.2.1 54 = .ok (.bipush 15, 2) := by decide +kernel
theorem d_Mo_take_56 : decode m_Mo_take.2.1 56 = .ok (.irem, 1) := by decide +kernel
theorem d_Mo_take_57 : decode m_Mo_take.2.1 57 = .ok (.ifCond .ne 34, 3) := by decide +kernel
theorem d_Mo_take_60 : decode m_Mo_take.2.1 60 = .ok (.iload 4, 2) := by decide +kernel
theorem d_Mo_take_62 : decode m_Mo_take.2.1 62 = .ok (.iconst 4, 1) := by decide +kernel
theorem d_Mo_take_63 : decode m_Mo_take.2.1 63 = .ok (.bipush 15, 2) := by decide +kernel
theorem d_Mo_take_65 : decode m_Mo_take.2.1 65 = .ok (.aload_n 0, 1) := by decide +kernel
theorem d_Mo_take_66 : decode m_Mo_take.2.1 66 = .ok (.iload_n 1, 1) := by decide +kernel
theorem d_Mo_take_67 : decode m_Mo_take.2.1 67 = .ok (.aload_n 0, 1) := by decide +kernel
theorem d_Mo_take_68 : decode m_Mo_take.2.1 68 = .ok (.getfield 17, 3) := by decide +kernel
theorem d_Mo_take_71 : decode m_Mo_take.2.1 71 = .ok (.iload_n 1, 1) := by decide +kernel
theorem d_Mo_take_72 : decode m_Mo_take.2.1 72 = .ok (.iaload, 1) := by decide +kernel
theorem d_Mo_take_73 : decode m_Mo_take.2.1 73 = .ok (.iload_n 3, 1) := by decide +kernel
theorem d_Mo_take_74 : decode m_Mo_take.2.1 74 = .ok (.bipush 16, 2) := by decide +kernel
theorem d_Mo_take_76 : decode m_Mo_take.2.1 76 = .ok (.isub, 1) := by decide +kernel
theorem d_Mo_take_77 : decode m_Mo_take.2.1 77 = .ok (.iload_n 3, 1) := by decide +kernel
theorem d_Mo_take_78 : decode m_Mo_take.2.1 78 = .ok (.iconst 2, 1) := by decide +kernel
theorem d_Mo_take_79 : decode m_Mo_take.2.1 79 = .ok (.isub, 1) := by decide +kernel
theorem d_Mo_take_80 : decode m_Mo_take.2.1 80 = .ok (.invokevirtual 84, 3) := by decide +kernel
theorem d_Mo_take_83 : decode m_Mo_take.2.1 83 = .ok (.invokestatic 76, 3) := by decide +kernel
theorem d_Mo_take_86 : decode m_Mo_take.2.1 86 = .ok (.imul, 1) := by decide +kernel
theorem d_Mo_take_87 : decode m_Mo_take.2.1 87 = .ok (.iadd, 1) := by decide +kernel
theorem d_Mo_take_88 : decode m_Mo_take.2.1 88 = .ok (.iadd, 1) := by decide +kernel
theorem d_Mo_take_89 : decode m_Mo_take.2.1 89 = .ok (.istore 4, 2) := by decide +kernel
theorem d_Mo_take_91 : decode m_Mo_take.2.1 91 = .ok (.aload_n 0, 1) := by decide +kernel
theorem d_Mo_take_92 : decode m_Mo_take.2.1 92 = .ok (.getfield 20, 3) := by decide +kernel
theorem d_Mo_take_95 : decode m_Mo_take.2.1 95 = .ok (.iload_n 1, 1) := by decide +kernel
theorem d_Mo_take_96 : decode m_Mo_take.2.1 96 = .ok (.iload 4, 2) := by decide +kernel
theorem d_Mo_take_98 : decode m_Mo_take.2.1 98 = .ok (.iastore, 1) := by decide +kernel
theorem d_Mo_take_99 : decode m_Mo_take.2.1 99 = .ok (.iload_n 3, 1) := by decide +kernel
theorem d_Mo_take_100 : decode m_Mo_take.2.1 100 = .ok (.iconst 1, 1) := by decide +kernel
theorem d_Mo_take_101 : decode m_Mo_take.2.1 101 = .ok (.isub, 1) := by decide +kernel
theorem d_Mo_take_102 : decode m_Mo_take.2.1 102 = .ok (.bipush 15, 2) := by decide +kernel
theorem d_Mo_take_104 : decode m_Mo_take.2.1 104 = .ok (.irem, 1) := by decide +kernel
theorem d_Mo_take_105 : decode m_Mo_take.2.1 105 = .ok (.ifCond .ne 32, 3) := by decide +kernel
theorem d_Mo_take_108 : decode m_Mo_take.2.1 108 = .ok (.iconst 4, 1) := by decide +kernel
theorem d_Mo_take_109 : decode m_Mo_take.2.1 109 = .ok (.bipush 15, 2) := by decide +kernel
theorem d_Mo_take_111 : decode m_Mo_take.2.1 111 = .ok (.aload_n 0, 1) := by decide +kernel
theorem d_Mo_take_112 : decode m_Mo_take.2.1 112 = .ok (.iload_n 1, 1) := by decide +kernel
theorem d_Mo_take_113 : decode m_Mo_take.2.1 113 = .ok (.aload_n 0, 1) := by decide +kernel
theorem d_Mo_take_114 : decode m_Mo_take.2.1 114 = .ok (.getfield 17, 3) := by decide +kernel
theorem d_Mo_take_117 : decode m_Mo_take.2.1 117 = .ok (.iload_n 1, 1) := by decide +kernel
theorem d_Mo_take_118 : decode m_Mo_take.2.1 118 = .ok (.iaload, 1) := by decide +kernel
theorem d_Mo_take_119 : decode m_Mo_take.2.1 119 = .ok (.iload_n 3, 1) := by decide +kernel
theorem d_Mo_take_120 : decode m_Mo_take.2.1 120 = .ok (.bipush 15, 2) := by decide +kernel
theorem d_Mo_take_122 : decode m_Mo_take.2.1 122 = .ok (.isub, 1) := by decide +kernel
theorem d_Mo_take_123 : decode m_Mo_take.2.1 123 = .ok (.iload_n 3, 1) := by decide +kernel
theorem d_Mo_take_124 : decode m_Mo_take.2.1 124 = .ok (.iconst 1, 1) := by decide +kernel
theorem d_Mo_take_125 : decode m_Mo_take.2.1 125 = .ok (.isub, 1) := by decide +kernel
theorem d_Mo_take_126 : decode m_Mo_take.2.1 126 = .ok (.invokevirtual 84, 3) := by decide +kernel
theorem d_Mo_take_129 : decode m_Mo_take.2.1 129 = .ok (.invokestatic 76, 3) := by decide +kernel
theorem d_Mo_take_132 : decode m_Mo_take.2.1 132 = .ok (.imul, 1) := by decide +kernel
theorem d_Mo_take_133 : decode m_Mo_take.2.1 133 = .ok (.iadd, 1) := by decide +kernel
theorem d_Mo_take_134 : decode m_Mo_take.2.1 134 = .ok (.goto 4, 3) := by decide +kernel
theorem d_Mo_take_137 : decode m_Mo_take.2.1 137 = .ok (.iconst 0, 1) := by decide +kernel
theorem d_Mo_take_138 : decode m_Mo_take.2.1 138 = .ok (.istore 5, 2) := by decide +kernel
theorem d_Mo_take_140 : decode m_Mo_take.2.1 140 = .ok (.aload_n 0, 1) := by decide +kernel
theorem d_Mo_take_141 : decode m_Mo_take.2.1 141 = .ok (.iload_n 1, 1) := by decide +kernel
theorem d_Mo_take_142 : decode m_Mo_take.2.1 142 = .ok (.aload_n 0, 1) := by decide +kernel
theorem d_Mo_take_143 : decode m_Mo_take.2.1 143 = .ok (.getfield 17, 3) := by decide +kernel
theorem d_Mo_take_146 : decode m_Mo_take.2.1 146 = .ok (.iload_n 1, 1) := by decide +kernel
theorem d_Mo_take_147 : decode m_Mo_take.2.1 147 = .ok (.iaload, 1) := by decide +kernel
theorem d_Mo_take_148 : decode m_Mo_take.2.1 148 = .ok (.iload_n 3, 1) := by decide +kernel
theorem d_Mo_take_149 : decode m_Mo_take.2.1 149 = .ok (.iload 4, 2) := by decide +kernel
theorem d_Mo_take_151 : decode m_Mo_take.2.1 151 = .ok (.iload 5, 2) := by decide +kernel
theorem d_Mo_take_153 : decode m_Mo_take.2.1 153 = .ok (.iadd, 1) := by decide +kernel
theorem d_Mo_take_154 : decode m_Mo_take.2.1 154 = .ok (.invokevirtual 94, 3) := by decide +kernel
theorem d_Mo_take_157 : decode m_Mo_take.2.1 157 = .ok (.sipush 512, 3) := by decide +kernel
theorem d_Mo_take_160 : decode m_Mo_take.2.1 160 = .ok (.if_icmp .le 10, 3) := by decide +kernel
theorem d_Mo_take_163 : decode m_Mo_take.2.1 163 = .ok (.aload_n 0, 1) := by decide +kernel
theorem d_Mo_take_164 : decode m_Mo_take.2.1 164 = .ok (.iload_n 1, 1) := by decide +kernel
theorem d_Mo_take_165 : decode m_Mo_take.2.1 165 = .ok (.invokevirtual 97, 3) := by decide +kernel
theorem d_Mo_take_168 : decode m_Mo_take.2.1 168 = .ok (.iconst 1, 1) := by decide +kernel
theorem d_Mo_take_169 : decode m_Mo_take.2.1 169 = .ok (.istore_n 3, 1) := by decide +kernel
theorem d_Mo_take_170 : decode m_Mo_take.2.1 170 = .ok (.aload_n 0, 1) := by decide +kernel
theorem d_Mo_take_171 : decode m_Mo_take.2.1 171 = .ok (.getfield 14, 3) := by decide +kernel
theorem d_Mo_take_174 : decode m_Mo_take.2.1 174 = .ok (.iload_n 1, 1) := by decide +kernel
theorem d_Mo_take_175 : decode m_Mo_take.2.1 175 = .ok (.dup2, 1) := by decide +kernel
theorem d_Mo_take_176 : decode m_Mo_take.2.1 176 = .ok (.iaload, 1) := by decide +kernel
theorem d_Mo_take_177 : decode m_Mo_take.2.1 177 = .ok (.iconst 1, 1) := by decide +kernel
theorem d_Mo_take_178 : decode m_Mo_take.2.1 178 = .ok (.iadd, 1) := by decide +kernel
theorem d_Mo_take_179 : decode m_Mo_take.2.1 179 = .ok (.iastore, 1) := by decide +kernel
theorem d_Mo_take_180 : decode m_Mo_take.2.1 180 = .ok (.iload_n 3, 1) := by decide +kernel
theorem d_Mo_take_181 : decode m_Mo_take.2.1 181 = .ok (.sipush 1000, 3) := by decide +kernel
theorem d_Mo_take_184 : decode m_Mo_take.2.1 184 = .ok (.if_icmp .ne 8, 3) := by decide +kernel
theorem d_Mo_take_187 : decode m_Mo_take.2.1 187 = .ok (.aload_n 0, 1) := by decide +kernel
theorem d_Mo_take_188 : decode m_Mo_take.2.1 188 = .ok (.iload_n 1, 1) := by decide +kernel
theorem d_Mo_take_189 : decode m_Mo_take.2.1 189 = .ok (.invokevirtual 97, 3) := by decide +kernel
theorem d_Mo_take_192 : decode m_Mo_take.2.1 192 = .ok (.return_, 1) := by decide +kernel
theorem t_Mo_take_0 {d : Nat} {st : List Value} {a0 : Nat} {x1 : Int32} {x2 : Int32} {o3 : Option Value} {o4 : Option Value} {o5 : Option Value} {fs2 : List Value} {c4 : Nat} {c8 : Nat} {n10 : Nat} {f11 : Nat → Int32} {n14 : Nat} {f15 : Nat → Int32} {w : qk_W} {nc ns : Nat} {Q : Option Value ⊕ Nat → qk_W → Nat → Nat → Prop}  (hw1 : wo w a0 11 fs2) (hf3 : fs2[1]? = some (.ref c4)) (hf7 : fs2[2]? = some (.ref c8)) (ha9 : wi w c8 n10 f11) (hi12 : vp_in x1 n10) (ha13 : wi w c4 n14 f15) (hi : vp_in ((x1 * 32768) + (f11 x1.toNatClampNeg)) n14) (h16 : 16 ≤ c4) (k : Ev d m_Mo_take 17 [some (.ref a0), some (.int x1), some (.int x2), o3, o4, o5] st (qk_set w c4 (.inl (.int, n14, .inl (upd f15 ((x1 * 32768) + (f11 x1.toNatClampNeg)).toNatClampNeg x2)))) nc ns Q) : Ev d m_Mo_take 0 [some (.ref a0), some (.int x1), some (.int x2), o3, o4, o5] st w nc ns Q := by
  refine ev_aload_n d_Mo_take_0 rfl rfl ?_
  refine ev_getf d_Mo_take_1 fl_Mo_8 hw1.1 hw1.2 hf3 ?_
  refine ev_iload_n d_Mo_take_4 rfl ?_
  refine ev_ldc 32768 d_Mo_take_5 lc_Mo_46 ?_
  refine ev_imul d_Mo_take_7 ?_
  refine ev_aload_n d_Mo_take_8 rfl rfl ?_
  refine ev_getf d_Mo_take_9 fl_Mo_14 hw1.1 hw1.2 hf7 ?_
  refine ev_iload_n d_Mo_take_12 rfl ?_
  refine ev_iald d_Mo_take_13 ha9 hi12 ?_
  refine ev_iadd d_Mo_take_14 ?_
  refine ev_iload_n d_Mo_take_15 rfl ?_
  exact ev_iast d_Mo_take_16 h16 ha13 hi k
theorem t_Mo_take_17 {d : Nat} {st : List Value} {a0 : Nat} {x1 : Int32} {o2 : Option Value} {o3 : Option Value} {o4 : Option Value} {o5 : Option Value} {fs2 : List Value} {c4 : Nat} {n6 : Nat} {f7 : Nat → Int32} {c12 : Nat} {n14 : Nat} {f15 : Nat → Int32} {w : qk_W} {nc ns : Nat} {Q : Option Value ⊕ Nat → qk_W → Nat → Nat → Prop}  (hw1 : wo w a0 11 fs2) (hf3 : fs2[2]? = some (.ref c4)) (ha5 : wi w c4 n6 f7) (hi8 : vp_in x1 n6) (hf11 : fs2[3]? = some (.ref c12)) (ha13 : wi w c12 n14 f15) (hi16 : vp_in x1 n14) (hc17 : qk_c2 [some (.ref a0), some (.int x1), o2, o3, o4, o5] 3 = true) (kt : (((f7 x1.toNatClampNeg) - (f15 x1.toNatClampNeg)) + 1) ≤ (1 : Int32) → Ev d m_Mo_take 170 [some (.ref a0), some (.int x1), o2, some (.int (((f7 x1.toNatClampNeg) - (f15 x1.toNatClampNeg)) + 1)), o4, o5] st w nc ns Q) (kf : ¬ ((((f7 x1.toNatClampNeg) - (f15 x1.toNatClampNeg)) + 1) ≤ (1 : Int32)) → Ev d m_Mo_take 38 [some (.ref a0), some (.int x1), o2, some (.int (((f7 x1.toNatClampNeg) - (f15 x1.toNatClampNeg)) + 1)), o4, o5] st w nc ns Q) : Ev d m_Mo_take 17 [some (.ref a0), some (.int x1), o2, o3, o4, o5] st w nc ns Q := by
  refine ev_aload_n d_Mo_take_17 rfl rfl ?_
  refine ev_getf d_Mo_take_18 fl_Mo_14 hw1.1 hw1.2 hf3 ?_
  refine ev_iload_n d_Mo_take_21 rfl ?_
  refine ev_iald d_Mo_take_22 ha5 hi8 ?_
  refine ev_aload_n d_Mo_take_23 rfl rfl ?_
  refine ev_getf d_Mo_take_24 fl_Mo_17 hw1.1 hw1.2 hf11 ?_
  refine ev_iload_n d_Mo_take_27 rfl ?_
  refine ev_iald d_Mo_take_28 ha13 hi16 ?_
  refine ev_isub d_Mo_take_29 ?_
  refine ev_iconst 1 d_Mo_take_30 (by decide) ?_
  refine ev_iadd d_Mo_take_31 ?_
  refine ev_istore_n d_Mo_take_32 (by decide) hc17 ?_
  refine ev_iload_n d_Mo_take_33 rfl ?_
  refine ev_iconst 1 d_Mo_take_34 (by decide) ?_
  exact ev_icmp_le 170 d_Mo_take_35 (by decide) kt kf
theorem t_Mo_take_38 {d : Nat} {st : List Value} {a0 : Nat} {x1 : Int32} {o2 : Option Value} {x3 : Int32} {o4 : Option Value} {o5 : Option Value} {fs2 : List Value} {c4 : Nat} {n6 : Nat} {f7 : Nat → Int32} {w : qk_W} {nc ns : Nat} {Q : Option Value ⊕ Nat → qk_W → Nat → Nat → Prop}  (hw1 : wo w a0 11 fs2) (hf3 : fs2[4]? = some (.ref c4)) (ha5 : wi w c4 n6 f7) (hi8 : vp_in x1 n6) (hc9 : qk_c2 [some (.ref a0), some (.int x1), o2, some (.int x3), o4, o5] 4 = true) (kt : x3 ≤ (2 : Int32) → Ev d m_Mo_take 91 [some (.ref a0), some (.int x1), o2, some (.int x3), some (.int (f7 x1.toNatClampNeg)), o5] st w nc ns Q) (kf : ¬ (x3 ≤ (2 : Int32)) → Ev d m_Mo_take 51 [some (.ref a0), some (.int x1), o2, some (.int x3), some (.int (f7 x1.toNatClampNeg)), o5] st w nc ns Q) : Ev d m_Mo_take 38 [some (.ref a0), some (.int x1), o2, some (.int x3), o4, o5] st w nc ns Q := by
  refine ev_aload_n d_Mo_take_38 rfl rfl ?_
  refine ev_getf d_Mo_take_39 fl_Mo_20 hw1.1 hw1.2 hf3 ?_
  refine ev_iload_n d_Mo_take_42 rfl ?_
  refine ev_iald d_Mo_take_43 ha5 hi8 ?_
  refine ev_istore d_Mo_take_44 (by decide) hc9 ?_
  refine ev_iload_n d_Mo_take_46 rfl ?_
  refine ev_iconst 2 d_Mo_take_47 (by decide) ?_
  exact ev_icmp_le 91 d_Mo_take_48 (by decide) kt kf
theorem t_Mo_take_51 {d : Nat} {st : List Value} {o0 : Option Value} {o1 : Option Value} {o2 : Option Value} {x3 : Int32} {o4 : Option Value} {o5 : Option Value} {w : qk_W} {nc ns : Nat} {Q : Option Value ⊕ Nat → qk_W → Nat → Nat → Prop}   (kt : ¬ (qi_rem (x3 - 2) 15) = 0 → Ev d m_Mo_take 91 [o0, o1, o2, some (.int x3), o4, o5] st w nc ns Q) (kf : (qi_rem (x3 - 2) 15) = 0 → Ev d m_Mo_take 60 [o0, o1, o2, some (.int x3), o4, o5] st w nc ns Q) : Ev d m_Mo_take 51 [o0, o1, o2, some (.int x3), o4, o5] st w nc ns Q := by
  refine ev_iload_n d_Mo_take_51 rfl ?_
  refine ev_iconst 2 d_Mo_take_52 (by decide) ?_
  refine ev_isub d_Mo_take_53 ?_
  refine ev_bipush 15 d_Mo_take_54 (by decide) ?_
  refine ev_irem d_Mo_take_56 (by decide) ?_
  exact ev_if_ne 91 d_Mo_take_57 (by decide) kt kf
theorem t_Mo_take_60 {d : Nat} {st : List Value} {a0 : Nat} {x1 : Int32} {o2 : Option Value} {x3 : Int32} {x4 : Int32} {o5 : Option Value} {fs2 : List Value} {c4 : Nat} {n6 : Nat} {f7 : Nat → Int32} {w : qk_W} {nc ns : Nat} {Q : Option Value ⊕ Nat → qk_W → Nat → Nat → Prop}  (hw1 : wo w a0 11 fs2) (hf3 : fs2[3]? = some (.ref c4)) (ha5 : wi w c4 n6 f7) (hi8 : vp_in x1 n6) (h8 : ((.int 15 :: .int 4 :: .int x4 :: st).map fun v => Value.category v).sum ≤ 8) (k : Ev d m_Mo_least 0 [some (.ref a0), some (.int x1), some (.int (f7 x1.toNatClampNeg)), some (.int (x3 - 16)), some (.int (x3 - 2)), none, none, none] [] w nc ns (fun r w1 nc1 ns1 => match r with | .inl v => Ev (d + 1) m_Mo_take 83 [some (.ref a0), some (.int x1), o2, some (.int x3), some (.int x4), o5] (v.toList ++ (.int 15 :: .int 4 :: .int x4 :: st)) w1 nc1 ns1 Q | .inr x => Q (.inr x) w1 nc1 ns1)) : Ev (d + 1) m_Mo_take 60 [some (.ref a0), some (.int x1), o2, some (.int x3), some (.int x4), o5] st w nc ns Q := by
  refine ev_iload d_Mo_take_60 rfl ?_
  refine ev_iconst 4 d_Mo_take_62 (by decide) ?_
  refine ev_bipush 15 d_Mo_take_63 (by decide) ?_
  refine ev_aload_n d_Mo_take_65 rfl rfl ?_
  refine ev_iload_n d_Mo_take_66 rfl ?_
  refine ev_aload_n d_Mo_take_67 rfl rfl ?_
  refine ev_getf d_Mo_take_68 fl_Mo_17 hw1.1 hw1.2 hf3 ?_
  refine ev_iload_n d_Mo_take_71 rfl ?_
  refine ev_iald d_Mo_take_72 ha5 hi8 ?_
  refine ev_iload_n d_Mo_take_73 rfl ?_
  refine ev_bipush 16 d_Mo_take_74 (by decide) ?_
  refine ev_isub d_Mo_take_76 ?_
  refine ev_iload_n d_Mo_take_77 rfl ?_
  refine ev_iconst 2 d_Mo_take_78 (by decide) ?_
  refine ev_isub d_Mo_take_79 ?_
  exact ev_call (M' := m_Mo_least) (As := [.ref a0, .int x1, .int (f7 x1.toNatClampNeg), .int (x3 - 16), .int (x3 - 2)]) (st := (.int 15 :: .int 4 :: .int x4 :: st)) d_Mo_take_80 i_Mo_least (fun h => absurd h (by decide +kernel)) cw_Mo_84 rfl rfl ⟨hw1.1, 11, _, _, hw1.2, rfl, rfl⟩ rfl (Nat.le_of_ble_eq_true rfl) h8 k
theorem t_Mo_take_83 {d : Nat} {st : List Value} {o0 : Option Value} {o1 : Option Value} {o2 : Option Value} {o3 : Option Value} {o4 : Option Value} {o5 : Option Value} {y0 : Int32} {w : qk_W} {nc ns : Nat} {Q : Option Value ⊕ Nat → qk_W → Nat → Nat → Prop}  (h8 : (st.map fun v => Value.category v).sum ≤ 8) (k : Ev d m_Mo_widthOf 0 [some (.int y0)] [] w nc ns (fun r w1 nc1 ns1 => match r with | .inl v => Ev (d + 1) m_Mo_take 86 [o0, o1, o2, o3, o4, o5] (v.toList ++ st) w1 nc1 ns1 Q | .inr x => Q (.inr x) w1 nc1 ns1)) : Ev (d + 1) m_Mo_take 83 [o0, o1, o2, o3, o4, o5] (.int y0 :: st) w nc ns Q := by
  exact ev_call (M' := m_Mo_widthOf) (As := [.int y0]) (st := st) d_Mo_take_83 i_Mo_widthOf (fun h => absurd h (by decide +kernel)) cw_Mo_76 rfl rfl trivial rfl (Nat.le_of_ble_eq_true rfl) h8 k
theorem t_Mo_take_86 {d : Nat} {st : List Value} {a0 : Nat} {x1 : Int32} {o2 : Option Value} {o3 : Option Value} {o4 : Option Value} {o5 : Option Value} {y0 : Int32} {y1 : Int32} {y2 : Int32} {y3 : Int32} {fs3 : List Value} {c5 : Nat} {n7 : Nat} {f8 : Nat → Int32} {w : qk_W} {nc ns : Nat} {Q : Option Value ⊕ Nat → qk_W → Nat → Nat → Prop}  (hc1 : qk_c2 [some (.ref a0), some (.int x1), o2, o3, o4, o5] 4 = true) (hw2 : wo w a0 11 fs3) (hf4 : fs3[4]? = some (.ref c5)) (ha6 : wi w c5 n7 f8) (hi : vp_in x1 n7) (h16 : 16 ≤ c5) (k : Ev d m_Mo_take 99 [some (.ref a0), some (.int x1), o2, o3, some (.int (y3 + (y2 + (y1 * y0)))), o5] st (qk_set w c5 (.inl (.int, n7, .inl (upd f8 x1.toNatClampNeg (y3 + (y2 + (y1 * y0))))))) nc ns Q) : Ev d m_Mo_take 86 [some (.ref a0), some (.int x1), o2, o3, o4, o5] (.int y0 :: .int y1 :: .int y2 :: .int y3 :: st) w nc ns Q := by
  refine ev_imul d_Mo_take_86 ?_
  refine ev_iadd d_Mo_take_87 ?_
  refine ev_iadd d_Mo_take_88 ?_
  refine ev_istore d_Mo_take_89 (by decide) hc1 ?_
  refine ev_aload_n d_Mo_take_91 rfl rfl ?_
  refine ev_getf d_Mo_take_92 fl_Mo_20 hw2.1 hw2.2 hf4 ?_
  refine ev_iload_n d_Mo_take_95 rfl ?_
  refine ev_iload d_Mo_take_96 rfl ?_
  exact ev_iast d_Mo_take_98 h16 ha6 hi k
theorem t_Mo_take_91 {d : Nat} {st : List Value} {a0 : Nat} {x1 : Int32} {o2 : Option Value} {o3 : Option Value} {x4 : Int32} {o5 : Option Value} {fs2 : List Value} {c4 : Nat} {n6 : Nat} {f7 : Nat → Int32} {w : qk_W} {nc ns : Nat} {Q : Option Value ⊕ Nat → qk_W → Nat → Nat → Prop}  (hw1 : wo w a0 11 fs2) (hf3 : fs2[4]? = some (.ref c4)) (ha5 : wi w c4 n6 f7) (hi : vp_in x1 n6) (h16 : 16 ≤ c4) (k : Ev d m_Mo_take 99 [some (.ref a0), some (.int x1), o2, o3, some (.int x4), o5] st (qk_set w c4 (.inl (.int, n6, .inl (upd f7 x1.toNatClampNeg x4)))) nc ns Q) : Ev d m_Mo_take 91 [some (.ref a0), some (.int x1), o2, o3, some (.int x4), o5] st w nc ns Q := by
  refine ev_aload_n d_Mo_take_91 rfl rfl ?_
  refine ev_getf d_Mo_take_92 fl_Mo_20 hw1.1 hw1.2 hf3 ?_
  refine ev_iload_n d_Mo_take_95 rfl ?_
  refine ev_iload d_Mo_take_96 rfl ?_
  exact ev_iast d_Mo_take_98 h16 ha5 hi k
theorem t_Mo_take_99 {d : Nat} {st : List Value} {o0 : Option Value} {o1 : Option Value} {o2 : Option Value} {x3 : Int32} {o4 : Option Value} {o5 : Option Value} {w : qk_W} {nc ns : Nat} {Q : Option Value ⊕ Nat → qk_W → Nat → Nat → Prop}   (kt : ¬ (qi_rem (x3 - 1) 15) = 0 → Ev d m_Mo_take 137 [o0, o1, o2, some (.int x3), o4, o5] st w nc ns Q) (kf : (qi_rem (x3 - 1) 15) = 0 → Ev d m_Mo_take 108 [o0, o1, o2, some (.int x3), o4, o5] st w nc ns Q) : Ev d m_Mo_take 99 [o0, o1, o2, some (.int x3), o4, o5] st w nc ns Q := by
  refine ev_iload_n d_Mo_take_99 rfl ?_
  refine ev_iconst 1 d_Mo_take_100 (by decide) ?_
  refine ev_isub d_Mo_take_101 ?_
  refine ev_bipush 15 d_Mo_take_102 (by decide) ?_
  refine ev_irem d_Mo_take_104 (by decide) ?_
  exact ev_if_ne 137 d_Mo_take_105 (by decide) kt kf
theorem t_Mo_take_108 {d : Nat} {st : List Value} {a0 : Nat} {x1 : Int32} {o2 : Option Value} {x3 : Int32} {o4 : Option Value} {o5 : Option Value} {fs2 : List Value} {c4 : Nat} {n6 : Nat} {f7 : Nat → Int32} {w : qk_W} {nc ns : Nat} {Q : Option Value ⊕ Nat → qk_W → Nat → Nat → Prop}  (hw1 : wo w a0 11 fs2) (hf3 : fs2[3]? = some (.ref c4)) (ha5 : wi w c4 n6 f7) (hi8 : vp_in x1 n6) (h8 : ((.int 15 :: .int 4 :: st).map fun v => Value.category v).sum ≤ 8) (k : Ev d m_Mo_least 0 [some (.ref a0), some (.int x1), some (.int (f7 x1.toNatClampNeg)), some (.int (x3 - 15)), some (.int (x3 - 1)), none, none, none] [] w nc ns (fun r w1 nc1 ns1 => match r with | .inl v => Ev (d + 1) m_Mo_take 129 [some (.ref a0), some (.int x1), o2, some (.int x3), o4, o5] (v.toList ++ (.int 15 :: .int 4 :: st)) w1 nc1 ns1 Q | .inr x => Q (.inr x) w1 nc1 ns1)) : Ev (d + 1) m_Mo_take 108 [some (.ref a0), some (.int x1), o2, some (.int x3), o4, o5] st w nc ns Q := by
  refine ev_iconst 4 d_Mo_take_108 (by decide) ?_
  refine ev_bipush 15 d_Mo_take_109 (by decide) ?_
  refine ev_aload_n d_Mo_take_111 rfl rfl ?_
  refine ev_iload_n d_Mo_take_112 rfl ?_
  refine ev_aload_n d_Mo_take_113 rfl rfl ?_
  refine ev_getf d_Mo_take_114 fl_Mo_17 hw1.1 hw1.2 hf3 ?_
  refine ev_iload_n d_Mo_take_117 rfl ?_
  refine ev_iald d_Mo_take_118 ha5 hi8 ?_
  refine ev_iload_n d_Mo_take_119 rfl ?_
  refine ev_bipush 15 d_Mo_take_120 (by decide) ?_
  refine ev_isub d_Mo_take_122 ?_
  refine ev_iload_n d_Mo_take_123 rfl ?_
  refine ev_iconst 1 d_Mo_take_124 (by decide) ?_
  refine ev_isub d_Mo_take_125 ?_
  exact ev_call (M' := m_Mo_least) (As := [.ref a0, .int x1, .int (f7 x1.toNatClampNeg), .int (x3 - 15), .int (x3 - 1)]) (st := (.int 15 :: .int 4 :: st)) d_Mo_take_126 i_Mo_least (fun h => absurd h (by decide +kernel)) cw_Mo_84 rfl rfl ⟨hw1.1, 11, _, _, hw1.2, rfl, rfl⟩ rfl (Nat.le_of_ble_eq_true rfl) h8 k
theorem t_Mo_take_129 {d : Nat} {st : List Value} {o0 : Option Value} {o1 : Option Value} {o2 : Option Value} {o3 : Option Value} {o4 : Option Value} {o5 : Option Value} {y0 : Int32} {w : qk_W} {nc ns : Nat} {Q : Option Value ⊕ Nat → qk_W → Nat → Nat → Prop}  (h8 : (st.map fun v => Value.category v).sum ≤ 8) (k : Ev d m_Mo_widthOf 0 [some (.int y0)] [] w nc ns (fun r w1 nc1 ns1 => match r with | .inl v => Ev (d + 1) m_Mo_take 132 [o0, o1, o2, o3, o4, o5] (v.toList ++ st) w1 nc1 ns1 Q | .inr x => Q (.inr x) w1 nc1 ns1)) : Ev (d + 1) m_Mo_take 129 [o0, o1, o2, o3, o4, o5] (.int y0 :: st) w nc ns Q := by
  exact ev_call (M' := m_Mo_widthOf) (As := [.int y0]) (st := st) d_Mo_take_129 i_Mo_widthOf (fun h => absurd h (by decide +kernel)) cw_Mo_76 rfl rfl trivial rfl (Nat.le_of_ble_eq_true rfl) h8 k
theorem t_Mo_take_132 {d : Nat} {st : List Value} {a0 : Nat} {x1 : Int32} {o2 : Option Value} {x3 : Int32} {x4 : Int32} {o5 : Option Value} {y0 : Int32} {y1 : Int32} {y2 : Int32} {fs3 : List Value} {c5 : Nat} {n7 : Nat} {f8 : Nat → Int32} {w : qk_W} {nc ns : Nat} {Q : Option Value ⊕ Nat → qk_W → Nat → Nat → Prop}  (hc1 : qk_c2 [some (.ref a0), some (.int x1), o2, some (.int x3), some (.int x4), o5] 5 = true) (hw2 : wo w a0 11 fs3) (hf4 : fs3[3]? = some (.ref c5)) (ha6 : wi w c5 n7 f8) (hi9 : vp_in x1 n7) (h8 : (st.map fun v => Value.category v).sum ≤ 8) (k : Ev d m_Mo_sizeOf 0 [some (.ref a0), some (.int x1), some (.int (f8 x1.toNatClampNeg)), some (.int x3), some (.int (x4 + (y2 + (y1 * y0)))), none, none] [] w nc ns (fun r w1 nc1 ns1 => match r with | .inl v => Ev (d + 1) m_Mo_take 157 [some (.ref a0), some (.int x1), o2, some (.int x3), some (.int x4), some (.int (y2 + (y1 * y0)))] (v.toList ++ st) w1 nc1 ns1 Q | .inr x => Q (.inr x) w1 nc1 ns1)) : Ev (d + 1) m_Mo_take 132 [some (.ref a0), some (.int x1), o2, some (.int x3), some (.int x4), o5] (.int y0 :: .int y1 :: .int y2 :: st) w nc ns Q := by
  refine ev_imul d_Mo_take_132 ?_
  refine ev_iadd d_Mo_take_133 ?_
  refine ev_goto 138 d_Mo_take_134 (by decide) ?_
  refine ev_istore d_Mo_take_138 (by decide) hc1 ?_
  refine ev_aload_n d_Mo_take_140 rfl rfl ?_
  refine ev_iload_n d_Mo_take_141 rfl ?_
  refine ev_aload_n d_Mo_take_142 rfl rfl ?_
  refine ev_getf d_Mo_take_143 fl_Mo_17 hw2.1 hw2.2 hf4 ?_
  refine ev_iload_n d_Mo_take_146 rfl ?_
  refine ev_iald d_Mo_take_147 ha6 hi9 ?_
  refine ev_iload_n d_Mo_take_148 rfl ?_
  refine ev_iload d_Mo_take_149 rfl ?_
  refine ev_iload d_Mo_take_151 rfl ?_
  refine ev_iadd d_Mo_take_153 ?_
  exact ev_call (M' := m_Mo_sizeOf) (As := [.ref a0, .int x1, .int (f8 x1.toNatClampNeg), .int x3, .int (x4 + (y2 + (y1 * y0)))]) (st := st) d_Mo_take_154 i_Mo_sizeOf (fun h => absurd h (by decide +kernel)) cw_Mo_94 rfl rfl ⟨hw2.1, 11, _, _, hw2.2, rfl, rfl⟩ rfl (Nat.le_of_ble_eq_true rfl) h8 k
theorem t_Mo_take_137 {d : Nat} {st : List Value} {a0 : Nat} {x1 : Int32} {o2 : Option Value} {x3 : Int32} {x4 : Int32} {o5 : Option Value} {fs3 : List Value} {c5 : Nat} {n7 : Nat} {f8 : Nat → Int32} {w : qk_W} {nc ns : Nat} {Q : Option Value ⊕ Nat → qk_W → Nat → Nat → Prop}  (hc1 : qk_c2 [some (.ref a0), some (.int x1), o2, some (.int x3), some (.int x4), o5] 5 = true) (hw2 : wo w a0 11 fs3) (hf4 : fs3[3]? = some (.ref c5)) (ha6 : wi w c5 n7 f8) (hi9 : vp_in x1 n7) (h8 : (st.map fun v => Value.category v).sum ≤ 8) (k : Ev d m_Mo_sizeOf 0 [some (.ref a0), some (.int x1), some (.int (f8 x1.toNatClampNeg)), some (.int x3), some (.int (x4 + 0)), none, none] [] w nc ns (fun r w1 nc1 ns1 => match r with | .inl v => Ev (d + 1) m_Mo_take 157 [some (.ref a0), some (.int x1), o2, some (.int x3), some (.int x4), some (.int 0)] (v.toList ++ st) w1 nc1 ns1 Q | .inr x => Q (.inr x) w1 nc1 ns1)) : Ev (d + 1) m_Mo_take 137 [some (.ref a0), some (.int x1), o2, some (.int x3), some (.int x4), o5] st w nc ns Q := by
  refine ev_iconst 0 d_Mo_take_137 (by decide) ?_
  refine ev_istore d_Mo_take_138 (by decide) hc1 ?_
  refine ev_aload_n d_Mo_take_140 rfl rfl ?_
  refine ev_iload_n d_Mo_take_141 rfl ?_
  refine ev_aload_n d_Mo_take_142 rfl rfl ?_
  refine ev_getf d_Mo_take_143 fl_Mo_17 hw2.1 hw2.2 hf4 ?_
  refine ev_iload_n d_Mo_take_146 rfl ?_
  refine ev_iald d_Mo_take_147 ha6 hi9 ?_
  refine ev_iload_n d_Mo_take_148 rfl ?_
  refine ev_iload d_Mo_take_149 rfl ?_
  refine ev_iload d_Mo_take_151 rfl ?_
  refine ev_iadd d_Mo_take_153 ?_
  exact ev_call (M' := m_Mo_sizeOf) (As := [.ref a0, .int x1, .int (f8 x1.toNatClampNeg), .int x3, .int (x4 + 0)]) (st := st) d_Mo_take_154 i_Mo_sizeOf (fun h => absurd h (by decide +kernel)) cw_Mo_94 rfl rfl ⟨hw2.1, 11, _, _, hw2.2, rfl, rfl⟩ rfl (Nat.le_of_ble_eq_true rfl) h8 k
theorem t_Mo_take_157 {d : Nat} {st : List Value} {o0 : Option Value} {o1 : Option Value} {o2 : Option Value} {o3 : Option Value} {o4 : Option Value} {o5 : Option Value} {y0 : Int32} {w : qk_W} {nc ns : Nat} {Q : Option Value ⊕ Nat → qk_W → Nat → Nat → Prop}   (kt : y0 ≤ (512 : Int32) → Ev d m_Mo_take 170 [o0, o1, o2, o3, o4, o5] st w nc ns Q) (kf : ¬ (y0 ≤ (512 : Int32)) → Ev d m_Mo_take 163 [o0, o1, o2, o3, o4, o5] st w nc ns Q) : Ev d m_Mo_take 157 [o0, o1, o2, o3, o4, o5] (.int y0 :: st) w nc ns Q := by
  refine ev_sipush 512 d_Mo_take_157 (by decide) ?_
  exact ev_icmp_le 170 d_Mo_take_160 (by decide) kt kf
theorem t_Mo_take_163 {d : Nat} {st : List Value} {a0 : Nat} {x1 : Int32} {o2 : Option Value} {o3 : Option Value} {o4 : Option Value} {o5 : Option Value} {fsb : List Value} {w : qk_W} {nc ns : Nat} {Q : Option Value ⊕ Nat → qk_W → Nat → Nat → Prop}  (hb : wo w a0 11 fsb) (h8 : (st.map fun v => Value.category v).sum ≤ 8) (k : Ev d m_Mo_close 0 [some (.ref a0), some (.int x1), none, none] [] w nc ns (fun r w1 nc1 ns1 => match r with | .inl v => Ev (d + 1) m_Mo_take 168 [some (.ref a0), some (.int x1), o2, o3, o4, o5] (v.toList ++ st) w1 nc1 ns1 Q | .inr x => Q (.inr x) w1 nc1 ns1)) : Ev (d + 1) m_Mo_take 163 [some (.ref a0), some (.int x1), o2, o3, o4, o5] st w nc ns Q := by
  refine ev_aload_n d_Mo_take_163 rfl rfl ?_
  refine ev_iload_n d_Mo_take_164 rfl ?_
  exact ev_call (M' := m_Mo_close) (As := [.ref a0, .int x1]) (st := st) d_Mo_take_165 i_Mo_close (fun h => absurd h (by decide +kernel)) cw_Mo_97 rfl rfl ⟨hb.1, 11, _, _, hb.2, rfl, rfl⟩ rfl (Nat.le_of_ble_eq_true rfl) h8 k
theorem t_Mo_take_168 {d : Nat} {st : List Value} {a0 : Nat} {x1 : Int32} {o2 : Option Value} {o3 : Option Value} {o4 : Option Value} {o5 : Option Value} {fs3 : List Value} {c5 : Nat} {n7 : Nat} {f8 : Nat → Int32} {w : qk_W} {nc ns : Nat} {Q : Option Value ⊕ Nat → qk_W → Nat → Nat → Prop}  (hc1 : qk_c2 [some (.ref a0), some (.int x1), o2, o3, o4, o5] 3 = true) (hw2 : wo w a0 11 fs3) (hf4 : fs3[2]? = some (.ref c5)) (ha6 : wi w c5 n7 f8) (hi9 : vp_in x1 n7) (h16 : 16 ≤ c5) (k : Ev d m_Mo_take 180 [some (.ref a0), some (.int x1), o2, some (.int 1), o4, o5] st (qk_set w c5 (.inl (.int, n7, .inl (upd f8 x1.toNatClampNeg ((f8 x1.toNatClampNeg) + 1))))) nc ns Q) : Ev d m_Mo_take 168 [some (.ref a0), some (.int x1), o2, o3, o4, o5] st w nc ns Q := by
  refine ev_iconst 1 d_Mo_take_168 (by decide) ?_
  refine ev_istore_n d_Mo_take_169 (by decide) hc1 ?_
  refine ev_aload_n d_Mo_take_170 rfl rfl ?_
  refine ev_getf d_Mo_take_171 fl_Mo_14 hw2.1 hw2.2 hf4 ?_
  refine ev_iload_n d_Mo_take_174 rfl ?_
  refine ev_dup2 d_Mo_take_175 rfl rfl ?_
  refine ev_iald d_Mo_take_176 ha6 hi9 ?_
  refine ev_iconst 1 d_Mo_take_177 (by decide) ?_
  refine ev_iadd d_Mo_take_178 ?_
  exact ev_iast d_Mo_take_179 h16 ha6 hi9 k
theorem t_Mo_take_170 {d : Nat} {st : List Value} {a0 : Nat} {x1 : Int32} {o2 : Option Value} {o3 : Option Value} {o4 : Option Value} {o5 : Option Value} {fs2 : List Value} {c4 : Nat} {n6 : Nat} {f7 : Nat → Int32} {w : qk_W} {nc ns : Nat} {Q : Option Value ⊕ Nat → qk_W → Nat → Nat → Prop}  (hw1 : wo w a0 11 fs2) (hf3 : fs2[2]? = some (.ref c4)) (ha5 : wi w c4 n6 f7) (hi8 : vp_in x1 n6) (h16 : 16 ≤ c4) (k : Ev d m_Mo_take 180 [some (.ref a0), some (.int x1), o2, o3, o4, o5] st (qk_set w c4 (.inl (.int, n6, .inl (upd f7 x1.toNatClampNeg ((f7 x1.toNatClampNeg) + 1))))) nc ns Q) : Ev d m_Mo_take 170 [some (.ref a0), some (.int x1), o2, o3, o4, o5] st w nc ns Q := by
  refine ev_aload_n d_Mo_take_170 rfl rfl ?_
  refine ev_getf d_Mo_take_171 fl_Mo_14 hw1.1 hw1.2 hf3 ?_
  refine ev_iload_n d_Mo_take_174 rfl ?_
  refine ev_dup2 d_Mo_take_175 rfl rfl ?_
  refine ev_iald d_Mo_take_176 ha5 hi8 ?_
  refine ev_iconst 1 d_Mo_take_177 (by decide) ?_
  refine ev_iadd d_Mo_take_178 ?_
  exact ev_iast d_Mo_take_179 h16 ha5 hi8 k
theorem t_Mo_take_180 {d : Nat} {st : List Value} {o0 : Option Value} {o1 : Option Value} {o2 : Option Value} {x3 : Int32} {o4 : Option Value} {o5 : Option Value} {w : qk_W} {nc ns : Nat} {Q : Option Value ⊕ Nat → qk_W → Nat → Nat → Prop}   (kt : ¬ x3 = (1000 : Int32) → Ev d m_Mo_take 192 [o0, o1, o2, some (.int x3), o4, o5] st w nc ns Q) (kf : x3 = (1000 : Int32) → Ev d m_Mo_take 187 [o0, o1, o2, some (.int x3), o4, o5] st w nc ns Q) : Ev d m_Mo_take 180 [o0, o1, o2, some (.int x3), o4, o5] st w nc ns Q := by
  refine ev_iload_n d_Mo_take_180 rfl ?_
  refine ev_sipush 1000 d_Mo_take_181 (by decide) ?_
  exact ev_icmp_ne 192 d_Mo_take_184 (by decide) kt kf
theorem t_Mo_take_187 {d : Nat} {st : List Value} {a0 : Nat} {x1 : Int32} {o2 : Option Value} {o3 : Option Value} {o4 : Option Value} {o5 : Option Value} {fsb : List Value} {w : qk_W} {nc ns : Nat} {Q : Option Value ⊕ Nat → qk_W → Nat → Nat → Prop}  (hb : wo w a0 11 fsb) (h8 : (st.map fun v => Value.category v).sum ≤ 8) (k : Ev d m_Mo_close 0 [some (.ref a0), some (.int x1), none, none] [] w nc ns (fun r w1 nc1 ns1 => match r with | .inl v => Ev (d + 1) m_Mo_take 192 [some (.ref a0), some (.int x1), o2, o3, o4, o5] (v.toList ++ st) w1 nc1 ns1 Q | .inr x => Q (.inr x) w1 nc1 ns1)) : Ev (d + 1) m_Mo_take 187 [some (.ref a0), some (.int x1), o2, o3, o4, o5] st w nc ns Q := by
  refine ev_aload_n d_Mo_take_187 rfl rfl ?_
  refine ev_iload_n d_Mo_take_188 rfl ?_
  exact ev_call (M' := m_Mo_close) (As := [.ref a0, .int x1]) (st := st) d_Mo_take_189 i_Mo_close (fun h => absurd h (by decide +kernel)) cw_Mo_97 rfl rfl ⟨hb.1, 11, _, _, hb.2, rfl, rfl⟩ rfl (Nat.le_of_ble_eq_true rfl) h8 k
theorem t_Mo_take_192 {d : Nat} {o0 : Option Value} {o1 : Option Value} {o2 : Option Value} {o3 : Option Value} {o4 : Option Value} {o5 : Option Value} {w : qk_W} {nc ns : Nat} {Q : Option Value ⊕ Nat → qk_W → Nat → Nat → Prop}   (hq : Q (.inl none) w nc ns) : Ev d m_Mo_take 192 [o0, o1, o2, o3, o4, o5] [] w nc ns Q := by
  exact ev_vret d_Mo_take_192 rfl hq
/-! Mo_least -/
theorem cw_Mo_72 : qk_cw "QuakeLinkModel" m_Mo_difference.1 (.invokevirtual 72) := ⟨(lw_i5 _ (List.mem_of_getElem? (i := 59) rfl)), (lw_i5 _ (List.mem_of_getElem? (i := 61) rfl)), (lw_i0 _ (List.mem_of_getElem? (i := 23) rfl))⟩
theorem cw_Mo_80 : qk_cw "QuakeLinkModel" m_Mo_fits.1 (.invokestatic 80) := ⟨Or.inl (lw_i5 _ (List.mem_of_getElem? (i := 66) rfl)), (lw_i5 _ (List.mem_of_getElem? (i := 67) rfl))⟩
theorem d_Mo_least_0 : decode m_Mo_least.2.1 0 = .ok (.iconst 0, 1) := by decide +kernel
theorem d_Mo_least_1 : decode m_Mo_least.2.1 1 = .ok (.istore 5, 2) := by decide +kernel
theorem d_Mo_least_3 : decode m_Mo_least.2.1 3 = .ok (.iload_n 3, 1) := by decide +kernel
theorem d_Mo_least_4 : decode m_Mo_least.2.1 4 = .ok (.istore 6, 2) := by decide +kernel
theorem d_Mo_least_6 : decode m_Mo_least.2.1 6 = .ok (.iload 6, 2) := by decide +kernel
theorem d_Mo_least_8 : decode m_Mo_least.2.1 8 = .ok (.iload 4, 2) := by decide +kernel
theorem d_Mo_least_10 : decode m_Mo_least.2.1 10 = .ok (.if_icmp .gt 38, 3) := by decide +kernel
theorem d_Mo_least_13 : decode m_Mo_least.2.1 13 = .ok (.aload_n 0, 1) := by decide +kernel
theorem d_Mo_least_14 : decode m_Mo_least.2.1 14 = .ok (.iload_n 1, 1) := by decide +kernel
theorem d_Mo_least_15 : decode m_Mo_least.2.1 15 = .ok (.iload_n 2, 1) := by decide +kernel
theorem d_Mo_least_16 : decode m_Mo_least.2.1 16 = .ok (.iload 6, 2) := by decide +kernel
theorem d_Mo_least_18 : decode m_Mo_least.2.1 18 = .ok (.invokevirtual 72, 3) := by decide +kernel
theorem d_Mo_least_21 : decode m_Mo_least.2.1 21 = .ok (.istore 7, 2) := by decide +kernel
theorem d_Mo_least_23 : decode m_Mo_least.2.1 23 = .ok (.iload 7, 2) := by decide +kernel
theorem d_Mo_least_25 : decode m_Mo_least.2.1 25 = .ok (.iload 5, 2) := by decide +kernel
theorem d_Mo_least_27 : decode m_Mo_least.2.1 27 = .ok (.invokestatic 76, 3) := by decide +kernel
theorem d_Mo_least_30 : decode m_Mo_least.2.1 30 = .ok (.invokestatic 80, 3) := by decide +kernel
theorem d_Mo_least_33 : decode m_Mo_least.2.1 33 = .ok (.ifCond .ne 9, 3) := by decide +kernel
theorem d_Mo_least_36 : decode m_Mo_least.2.1 36 = .ok (.iinc 5 1, 3) := by decide +kernel
theorem d_Mo_least_39 : decode m_Mo_least.2.1 39 = .ok (.goto (-16), 3) := by decide +kernel
theorem d_Mo_least_42 : decode m_Mo_least.2.1 42 = .ok (.iinc 6 1, 3) := by decide +kernel
theorem d_Mo_least_45 : decode m_Mo_least.2.1 45 = .ok (.goto (-39), 3) := by decide +kernel
theorem d_Mo_least_48 : decode m_Mo_least.2.1 48 = .ok (.iload 5, 2) := by decide +kernel
theorem d_Mo_least_50 : decode m_Mo_least.2.1 50 = .ok (.ireturn, 1) := by decide +kernel
theorem t_Mo_least_0 {d : Nat} {st : List Value} {o0 : Option Value} {o1 : Option Value} {o2 : Option Value} {x3 : Int32} {o4 : Option Value} {o5 : Option Value} {o6 : Option Value} {o7 : Option Value} {w : qk_W} {nc ns : Nat} {Q : Option Value ⊕ Nat → qk_W → Nat → Nat → Prop}  (hc1 : qk_c2 [o0, o1, o2, some (.int x3), o4, o5, o6, o7] 5 = true) (k : Ev d m_Mo_least 6 [o0, o1, o2, some (.int x3), o4, some (.int 0), some (.int x3), o7] st w nc ns Q) : Ev d m_Mo_least 0 [o0, o1, o2, some (.int x3), o4, o5, o6, o7] st w nc ns Q := by
  refine ev_iconst 0 d_Mo_least_0 (by decide) ?_
  refine ev_istore d_Mo_least_1 (by decide) hc1 ?_
  refine ev_iload_n d_Mo_least_3 rfl ?_
  refine ev_istore d_Mo_least_4 (by decide) rfl ?_
  exact k
theorem t_Mo_least_6 {d : Nat} {st : List Value} {o0 : Option Value} {o1 : Option Value} {o2 : Option Value} {o3 : Option Value} {x4 : Int32} {o5 : Option Value} {x6 : Int32} {o7 : Option Value} {w : qk_W} {nc ns : Nat} {Q : Option Value ⊕ Nat → qk_W → Nat → Nat → Prop}   (kt : x4 < x6 → Ev d m_Mo_least 48 [o0, o1, o2, o3, some (.int x4), o5, some (.int x6), o7] st w nc ns Q) (kf : ¬ (x4 < x6) → Ev d m_Mo_least 13 [o0, o1, o2, o3, some (.int x4), o5, some (.int x6), o7] st w nc ns Q) : Ev d m_Mo_least 6 [o0, o1, o2, o3, some (.int x4), o5, some (.int x6), o7] st w nc ns Q := by
  refine ev_iload d_Mo_least_6 rfl ?_
  refine ev_iload d_Mo_least_8 rfl ?_
  exact ev_icmp_gt 48 d_Mo_least_10 (by decide) kt kf
theorem t_Mo_least_13 {d : Nat} {st : List Value} {a0 : Nat} {x1 : Int32} {x2 : Int32} {o3 : Option Value} {o4 : Option Value} {o5 : Option Value} {x6 : Int32} {o7 : Option Value} {fsb : List Value} {w : qk_W} {nc ns : Nat} {Q : Option Value ⊕ Nat → qk_W → Nat → Nat → Prop}  (hb : wo w a0 11 fsb) (h8 : (st.map fun v => Value.category v).sum ≤ 8) (k : Ev d m_Mo_difference 0 [some (.ref a0), some (.int x1), some (.int x2), some (.int x6), none, none] [] w nc ns (fun r w1 nc1 ns1 => match r with | .inl v => Ev (d + 1) m_Mo_least 21 [some (.ref a0), some (.int x1), some (.int x2), o3, o4, o5, some (.int x6), o7] (v.toList ++ st) w1 nc1 ns1 Q | .inr x => Q (.inr x) w1 nc1 ns1)) : Ev (d + 1) m_Mo_least 13 [some (.ref a0), some (.int x1), some (.int x2), o3, o4, o5, some (.int x6), o7] st w nc ns Q := by
  refine ev_aload_n d_Mo_least_13 rfl rfl ?_
  refine ev_iload_n d_Mo_least_14 rfl ?_
  refine ev_iload_n d_Mo_least_15 rfl ?_
  refine ev_iload d_Mo_least_16 rfl ?_
  exact ev_call (M' := m_Mo_difference) (As := [.ref a0, .int x1, .int x2, .int x6]) (st := st) d_Mo_least_18 i_Mo_difference (fun h => absurd h (by decide +kernel)) cw_Mo_72 rfl rfl ⟨hb.1, 11, _, _, hb.2, rfl, rfl⟩ rfl (Nat.le_of_ble_eq_true rfl) h8 k
theorem t_Mo_least_21 {d : Nat} {st : List Value} {o0 : Option Value} {o1 : Option Value} {o2 : Option Value} {o3 : Option Value} {o4 : Option Value} {o5 : Option Value} {o6 : Option Value} {o7 : Option Value} {y0 : Int32} {w : qk_W} {nc ns : Nat} {Q : Option Value ⊕ Nat → qk_W → Nat → Nat → Prop}  (hc1 : qk_c2 [o0, o1, o2, o3, o4, o5, o6, o7] 7 = true) (k : Ev d m_Mo_least 23 [o0, o1, o2, o3, o4, o5, o6, some (.int y0)] st w nc ns Q) : Ev d m_Mo_least 21 [o0, o1, o2, o3, o4, o5, o6, o7] (.int y0 :: st) w nc ns Q := by
  refine ev_istore d_Mo_least_21 (by decide) hc1 ?_
  exact k
theorem t_Mo_least_23 {d : Nat} {st : List Value} {o0 : Option Value} {o1 : Option Value} {o2 : Option Value} {o3 : Option Value} {o4 : Option Value} {x5 : Int32} {o6 : Option Value} {x7 : Int32} {w : qk_W} {nc ns : Nat} {Q : Option Value ⊕ Nat → qk_W → Nat → Nat → Prop}  (h8 : ((.int x7 :: st).map fun v => Value.category v).sum ≤ 8) (k : Ev d m_Mo_widthOf 0 [some (.int x5)] [] w nc ns (fun r w1 nc1 ns1 => match r with | .inl v => Ev (d + 1) m_Mo_least 30 [o0, o1, o2, o3, o4, some (.int x5), o6, some (.int x7)] (v.toList ++ (.int x7 :: st)) w1 nc1 ns1 Q | .inr x => Q (.inr x) w1 nc1 ns1)) : Ev (d + 1) m_Mo_least 23 [o0, o1, o2, o3, o4, some (.int x5), o6, some (.int x7)] st w nc ns Q := by
  refine ev_iload d_Mo_least_23 rfl ?_
  refine ev_iload d_Mo_least_25 rfl ?_
  exact ev_call (M' := m_Mo_widthOf) (As := [.int x5]) (st := (.int x7 :: st)) d_Mo_least_27 i_Mo_widthOf (fun h => absurd h (by decide +kernel)) cw_Mo_76 rfl rfl trivial rfl (Nat.le_of_ble_eq_true rfl) h8 k
theorem t_Mo_least_30 {d : Nat} {st : List Value} {o0 : Option Value} {o1 : Option Value} {o2 : Option Value} {o3 : Option Value} {o4 : Option Value} {o5 : Option Value} {o6 : Option Value} {o7 : Option Value} {y0 : Int32} {y1 : Int32} {w : qk_W} {nc ns : Nat} {Q : Option Value ⊕ Nat → qk_W → Nat → Nat → Prop}  (h8 : (st.map fun v => Value.category v).sum ≤ 8) (k : Ev d m_Mo_fits 0 [some (.int y1), some (.int y0)] [] w nc ns (fun r w1 nc1 ns1 => match r with | .inl v => Ev (d + 1) m_Mo_least 33 [o0, o1, o2, o3, o4, o5, o6, o7] (v.toList ++ st) w1 nc1 ns1 Q | .inr x => Q (.inr x) w1 nc1 ns1)) : Ev (d + 1) m_Mo_least 30 [o0, o1, o2, o3, o4, o5, o6, o7] (.int y0 :: .int y1 :: st) w nc ns Q := by
  exact ev_call (M' := m_Mo_fits) (As := [.int y1, .int y0]) (st := st) d_Mo_least_30 i_Mo_fits (fun h => absurd h (by decide +kernel)) cw_Mo_80 rfl rfl trivial rfl (Nat.le_of_ble_eq_true rfl) h8 k
theorem t_Mo_least_33 {d : Nat} {st : List Value} {o0 : Option Value} {o1 : Option Value} {o2 : Option Value} {o3 : Option Value} {o4 : Option Value} {o5 : Option Value} {o6 : Option Value} {o7 : Option Value} {y0 : Int32} {w : qk_W} {nc ns : Nat} {Q : Option Value ⊕ Nat → qk_W → Nat → Nat → Prop}   (kt : ¬ y0 = 0 → Ev d m_Mo_least 42 [o0, o1, o2, o3, o4, o5, o6, o7] st w nc ns Q) (kf : y0 = 0 → Ev d m_Mo_least 36 [o0, o1, o2, o3, o4, o5, o6, o7] st w nc ns Q) : Ev d m_Mo_least 33 [o0, o1, o2, o3, o4, o5, o6, o7] (.int y0 :: st) w nc ns Q := by
  exact ev_if_ne 42 d_Mo_least_33 (by decide) kt kf
theorem t_Mo_least_36 {d : Nat} {st : List Value} {o0 : Option Value} {o1 : Option Value} {o2 : Option Value} {o3 : Option Value} {o4 : Option Value} {x5 : Int32} {o6 : Option Value} {o7 : Option Value} {w : qk_W} {nc ns : Nat} {Q : Option Value ⊕ Nat → qk_W → Nat → Nat → Prop}  (hc1 : qk_c2 [o0, o1, o2, o3, o4, some (.int x5), o6, o7] 5 = true) (k : Ev d m_Mo_least 23 [o0, o1, o2, o3, o4, some (.int (x5 + 1)), o6, o7] st w nc ns Q) : Ev d m_Mo_least 36 [o0, o1, o2, o3, o4, some (.int x5), o6, o7] st w nc ns Q := by
  refine ev_iinc 1 d_Mo_least_36 (by decide) rfl (by decide) hc1 ?_
  refine ev_goto 23 d_Mo_least_39 (by decide) ?_
  exact k
theorem t_Mo_least_42 {d : Nat} {st : List Value} {o0 : Option Value} {o1 : Option Value} {o2 : Option Value} {o3 : Option Value} {o4 : Option Value} {o5 : Option Value} {x6 : Int32} {o7 : Option Value} {w : qk_W} {nc ns : Nat} {Q : Option Value ⊕ Nat → qk_W → Nat → Nat → Prop}  (hc1 : qk_c2 [o0, o1, o2, o3, o4, o5, some (.int x6), o7] 6 = true) (k : Ev d m_Mo_least 6 [o0, o1, o2, o3, o4, o5, some (.int (x6 + 1)), o7] st w nc ns Q) : Ev d m_Mo_least 42 [o0, o1, o2, o3, o4, o5, some (.int x6), o7] st w nc ns Q := by
  refine ev_iinc 1 d_Mo_least_42 (by decide) rfl (by decide) hc1 ?_
  refine ev_goto 6 d_Mo_least_45 (by decide) ?_
  exact k
theorem t_Mo_least_48 {d : Nat} {o0 : Option Value} {o1 : Option Value} {o2 : Option Value} {o3 : Option Value} {o4 : Option Value} {x5 : Int32} {o6 : Option Value} {o7 : Option Value} {w : qk_W} {nc ns : Nat} {Q : Option Value ⊕ Nat → qk_W → Nat → Nat → Prop}   (hq : Q (.inl (some (.int x5))) w nc ns) : Ev d m_Mo_least 48 [o0, o1, o2, o3, o4, some (.int x5), o6, o7] [] w nc ns Q := by
  refine ev_iload d_Mo_least_48 rfl ?_
  exact ev_iret d_Mo_least_50 rfl rfl hq
/-! Mo_difference -/
theorem d_Mo_difference_0 : decode m_Mo_difference.2.1 0 = .ok (.iload_n 1, 1) := by decide +kernel
theorem d_Mo_difference_1 : decode m_Mo_difference.2.1 1 = .ok (.ldc 46, 2) := by decide +kernel
theorem d_Mo_difference_3 : decode m_Mo_difference.2.1 3 = .ok (.imul, 1) := by decide +kernel
theorem d_Mo_difference_4 : decode m_Mo_difference.2.1 4 = .ok (.iload_n 2, 1) := by decide +kernel
theorem d_Mo_difference_5 : decode m_Mo_difference.2.1 5 = .ok (.iadd, 1) := by decide +kernel
theorem d_Mo_difference_6 : decode m_Mo_difference.2.1 6 = .ok (.iload_n 3, 1) := by decide +kernel
theorem d_Mo_difference_7 : decode m_Mo_difference.2.1 7 = .ok (.iadd, 1) := by decide +kernel
theorem d_Mo_difference_8 : decode m_Mo_difference.2.1 8 = .ok (.istore 4, 2) := by decide +kernel
theorem d_Mo_difference_10 : decode m_Mo_difference.2.1 10 = .ok (.aload_n 0, 1) := by decide +kernel
theorem d_Mo_difference_11 : decode m_Mo_difference.2.1 11 = .ok (.getfield 8, 3) := by decide +kernel
theorem d_Mo_difference_14 : decode m_Mo_difference.2.1 14 = .ok (.iload 4, 2) := by decide +kernel
theorem d_Mo_difference_16 : decode m_Mo_difference.2.1 16 = .ok (.iaload, 1) := by decide +kernel
theorem d_Mo_difference_17 : decode m_Mo_difference.2.1 17 = .ok (.aload_n 0, 1) := by decide +kernel
theorem d_Mo_difference_18 : decode m_Mo_difference.2.1 18 = .ok (.getfield 8, 3) := by decide +kernel
theorem d_Mo_difference_21 : decode m_Mo_difference.2.1 21 = .ok (.iload 4, 2) := by decide +kernel
theorem d_Mo_difference_23 : decode m_Mo_difference.2.1 23 = .ok (.iconst 1, 1) := by decide +kernel
theorem d_Mo_difference_24 : decode m_Mo_difference.2.1 24 = .ok (.isub, 1) := by decide +kernel
theorem d_Mo_difference_25 : decode m_Mo_difference.2.1 25 = .ok (.iaload, 1) := by decide +kernel
theorem d_Mo_difference_26 : decode m_Mo_difference.2.1 26 = .ok (.isub, 1) := by decide +kernel
theorem d_Mo_difference_27 : decode m_Mo_difference.2.1 27 = .ok (.istore 5, 2) := by decide +kernel
theorem d_Mo_difference_29 : decode m_Mo_difference.2.1 29 = .ok (.iload_n 3, 1) := by decide +kernel
theorem d_Mo_difference_30 : decode m_Mo_difference.2.1 30 = .ok (.iconst 1, 1) := by decide +kernel
theorem d_Mo_difference_31 : decode m_Mo_difference.2.1 31 = .ok (.if_icmp .ne 8, 3) := by decide +kernel
theorem d_Mo_difference_34 : decode m_Mo_difference.2.1 34 = .ok (.iload 5, 2) := by decide +kernel
theorem d_Mo_difference_36 : decode m_Mo_difference.2.1 36 = .ok (.goto 25, 3) := by decide +kernel
theorem d_Mo_difference_39 : decode m_Mo_difference.2.1 39 = .ok (.iload 5, 2) := by decide +kernel
theorem d_Mo_difference_41 : decode m_Mo_difference.2.1 41 = .ok (.aload_n 0, 1) := by decide +kernel
theorem d_Mo_difference_42 : decode m_Mo_difference.2.1 42 = .ok (.getfield 8, 3) := by decide +kernel
theorem d_Mo_difference_45 : decode m_Mo_difference.2.1 45 = .ok (.iload 4, 2) := by decide +kernel
theorem d_Mo_difference_47 : decode m_Mo_difference.2.1 47 = .ok (.iconst 1, 1) := by decide +kernel
theorem d_Mo_difference_48 : decode m_Mo_difference.2.1 48 = .ok (.isub, 1) := by decide +kernel
theorem d_Mo_difference_49 : decode m_Mo_difference.2.1 49 = .ok (.iaload, 1) := by decide +kernel
theorem d_Mo_difference_50 : decode m_Mo_difference.2.1 50 = .ok (.aload_n 0, 1) := by decide +kernel
theorem d_Mo_difference_51 : decode m_Mo_difference.2.1 51 = .ok (.getfield 8, 3) := by decide +kernel
theorem d_Mo_difference_54 : decode m_Mo_difference.2.1 54 = .ok (.iload 4, 2) := by decide +kernel
theorem d_Mo_difference_56 : decode m_Mo_difference.2.1 56 = .ok (.iconst 2, 1) := by decide +kernel
theorem d_Mo_difference_57 : decode m_Mo_difference.2.1 57 = .ok (.isub, 1) := by decide +kernel
theorem d_Mo_difference_58 : decode m_Mo_difference.2.1 58 = .ok (.iaload, 1) := by decide +kernel
theorem d_Mo_difference_59 : decode m_Mo_difference.2.1 59 = .ok (.isub, 1) := by decide +kernel
theorem d_Mo_difference_60 : decode m_Mo_difference.2.1 60 = .ok (.isub, 1) := by decide +kernel
theorem d_Mo_difference_61 : decode m_Mo_difference.2.1 61 = .ok (.ireturn, 1) := by decide +kernel
theorem t_Mo_difference_0 {d : Nat} {st : List Value} {a0 : Nat} {x1 : Int32} {x2 : Int32} {x3 : Int32} {o4 : Option Value} {o5 : Option Value} {fs2 : List Value} {c4 : Nat} {n6 : Nat} {f7 : Nat → Int32} {w : qk_W} {nc ns : Nat} {Q : Option Value ⊕ Nat → qk_W → Nat → Nat → Prop}  (hw1 : wo w a0 11 fs2) (hf3 : fs2[1]? = some (.ref c4)) (ha5 : wi w c4 n6 f7) (hi8 : vp_in (((x1 * 32768) + x2) + x3) n6) (hi12 : vp_in ((((x1 * 32768) + x2) + x3) - 1) n6) (kt : ¬ x3 = (1 : Int32) → Ev d m_Mo_difference 39 [some (.ref a0), some (.int x1), some (.int x2), some (.int x3), some (.int (((x1 * 32768) + x2) + x3)), some (.int ((f7 (((x1 * 32768) + x2) + x3).toNatClampNeg) - (f7 ((((x1 * 32768) + x2) + x3) - 1).toNatClampNeg)))] st w nc ns Q) (kf : x3 = (1 : Int32) → Ev d m_Mo_difference 34 [some (.ref a0), some (.int x1), some (.int x2), some (.int x3), some (.int (((x1 * 32768) + x2) + x3)), some (.int ((f7 (((x1 * 32768) + x2) + x3).toNatClampNeg) - (f7 ((((x1 * 32768) + x2) + x3) - 1).toNatClampNeg)))] st w nc ns Q) : Ev d m_Mo_difference 0 [some (.ref a0), some (.int x1), some (.int x2), some (.int x3), o4, o5] st w nc ns Q := by
  refine ev_iload_n d_Mo_difference_0 rfl ?_
  refine ev_ldc 32768 d_Mo_difference_1 lc_Mo_46 ?_
  refine ev_imul d_Mo_difference_3 ?_
  refine ev_iload_n d_Mo_difference_4 rfl ?_
  refine ev_iadd d_Mo_difference_5 ?_
  refine ev_iload_n d_Mo_difference_6 rfl ?_
  refine ev_iadd d_Mo_difference_7 ?_
  refine ev_istore d_Mo_difference_8 (by decide) rfl ?_
  refine ev_aload_n d_Mo_difference_10 rfl rfl ?_
  refine ev_getf d_Mo_difference_11 fl_Mo_8 hw1.1 hw1.2 hf3 ?_
  refine ev_iload d_Mo_difference_14 rfl ?_
  refine ev_iald d_Mo_difference_16 ha5 hi8 ?_
  refine ev_aload_n d_Mo_difference_17 rfl rfl ?_
  refine ev_getf d_Mo_difference_18 fl_Mo_8 hw1.1 hw1.2 hf3 ?_
  refine ev_iload d_Mo_difference_21 rfl ?_
  refine ev_iconst 1 d_Mo_difference_23 (by decide) ?_
  refine ev_isub d_Mo_difference_24 ?_
  refine ev_iald d_Mo_difference_25 ha5 hi12 ?_
  refine ev_isub d_Mo_difference_26 ?_
  refine ev_istore d_Mo_difference_27 (by decide) rfl ?_
  refine ev_iload_n d_Mo_difference_29 rfl ?_
  refine ev_iconst 1 d_Mo_difference_30 (by decide) ?_
  exact ev_icmp_ne 39 d_Mo_difference_31 (by decide) kt kf
theorem t_Mo_difference_34 {d : Nat} {o0 : Option Value} {o1 : Option Value} {o2 : Option Value} {o3 : Option Value} {o4 : Option Value} {x5 : Int32} {w : qk_W} {nc ns : Nat} {Q : Option Value ⊕ Nat → qk_W → Nat → Nat → Prop}   (hq : Q (.inl (some (.int x5))) w nc ns) : Ev d m_Mo_difference 34 [o0, o1, o2, o3, o4, some (.int x5)] [] w nc ns Q := by
  refine ev_iload d_Mo_difference_34 rfl ?_
  refine ev_goto 61 d_Mo_difference_36 (by decide) ?_
  exact ev_iret d_Mo_difference_61 rfl rfl hq
theorem t_Mo_difference_39 {d : Nat} {a0 : Nat} {o1 : Option Value} {o2 : Option Value} {o3 : Option Value} {x4 : Int32} {x5 : Int32} {fs2 : List Value} {c4 : Nat} {n6 : Nat} {f7 : Nat → Int32} {w : qk_W} {nc ns : Nat} {Q : Option Value ⊕ Nat → qk_W → Nat → Nat → Prop}  (hw1 : wo w a0 11 fs2) (hf3 : fs2[1]? = some (.ref c4)) (ha5 : wi w c4 n6 f7) (hi8 : vp_in (x4 - 1) n6) (hi12 : vp_in (x4 - 2) n6) (hq : Q (.inl (some (.int (x5 - ((f7 (x4 - 1).toNatClampNeg) - (f7 (x4 - 2).toNatClampNeg)))))) w nc ns) : Ev d m_Mo_difference 39 [some (.ref a0), o1, o2, o3, some (.int x4), some (.int x5)] [] w nc ns Q := by
  refine ev_iload d_Mo_difference_39 rfl ?_
  refine ev_aload_n d_Mo_difference_41 rfl rfl ?_
  refine ev_getf d_Mo_difference_42 fl_Mo_8 hw1.1 hw1.2 hf3 ?_
  refine ev_iload d_Mo_difference_45 rfl ?_
  refine ev_iconst 1 d_Mo_difference_47 (by decide) ?_
  refine ev_isub d_Mo_difference_48 ?_
  refine ev_iald d_Mo_difference_49 ha5 hi8 ?_
  refine ev_aload_n d_Mo_difference_50 rfl rfl ?_
  refine ev_getf d_Mo_difference_51 fl_Mo_8 hw1.1 hw1.2 hf3 ?_
  refine ev_iload d_Mo_difference_54 rfl ?_
  refine ev_iconst 2 d_Mo_difference_56 (by decide) ?_
  refine ev_isub d_Mo_difference_57 ?_
  refine ev_iald d_Mo_difference_58 ha5 hi12 ?_
  refine ev_isub d_Mo_difference_59 ?_
  refine ev_isub d_Mo_difference_60 ?_
  exact ev_iret d_Mo_difference_61 rfl rfl hq
/-! Mo_widthOf -/
theorem d_Mo_widthOf_0 : decode m_Mo_widthOf.2.1 0 = .ok (.iload_n 0, 1) := by decide +kernel
theorem d_Mo_widthOf_1 : decode m_Mo_widthOf.2.1 1 = .ok (.ifCond .ne 7, 3) := by decide +kernel
theorem d_Mo_widthOf_4 : decode m_Mo_widthOf.2.1 4 = .ok (.iconst 0, 1) := by decide +kernel
theorem d_Mo_widthOf_5 : decode m_Mo_widthOf.2.1 5 = .ok (.goto 34, 3) := by decide +kernel
theorem d_Mo_widthOf_8 : decode m_Mo_widthOf.2.1 8 = .ok (.iload_n 0, 1) := by decide +kernel
theorem d_Mo_widthOf_9 : decode m_Mo_widthOf.2.1 9 = .ok (.bipush 6, 2) := by decide +kernel
theorem d_Mo_widthOf_11 : decode m_Mo_widthOf.2.1 11 = .ok (.if_icmp .ge 11, 3) := by decide +kernel
theorem d_Mo_widthOf_14 : decode m_Mo_widthOf.2.1 14 = .ok (.iconst 2, 1) := by decide +kernel
theorem d_Mo_widthOf_15 : decode m_Mo_widthOf.2.1 15 = .ok (.iconst 2, 1) := by decide +kernel
theorem d_Mo_widthOf_16 : decode m_Mo_widthOf.2.1 16 = .ok (.iload_n 0, 1) := by decide +kernel
theorem d_Mo_widthOf_17 : decode m_Mo_widthOf.2.1 17 = .ok (.imul, 1) := by decide +kernel
theorem d_Mo_widthOf_18 : decode m_Mo_widthOf.2.1 18 = .ok (.iadd, 1) := by decide +kernel
theorem d_Mo_widthOf_19 : decode m_Mo_widthOf.2.1 19 = .ok (.goto 20, 3) := by decide +kernel
theorem d_Mo_widthOf_22 : decode m_Mo_widthOf.2.1 22 = .ok (.iload_n 0, 1) := by decide +kernel
theorem d_Mo_widthOf_23 : decode m_Mo_widthOf.2.1 23 = .ok (.bipush 9, 2) := by decide +kernel
theorem d_Mo_widthOf_25 : decode m_Mo_widthOf.2.1 25 = .ok (.if_icmp .ge 12, 3) := by decide +kernel
theorem d_Mo_widthOf_28 : decode m_Mo_widthOf.2.1 28 = .ok (.iconst 4, 1) := by decide +kernel
theorem d_Mo_widthOf_29 : decode m_Mo_widthOf.2.1 29 = .ok (.iload_n 0, 1) := by decide +kernel
theorem d_Mo_widthOf_30 : decode m_Mo_widthOf.2.1 30 = .ok (.imul, 1) := by decide +kernel
theorem d_Mo_widthOf_31 : decode m_Mo_widthOf.2.1 31 = .ok (.bipush 8, 2) := by decide +kernel
theorem d_Mo_widthOf_33 : decode m_Mo_widthOf.2.1 33 = .ok (.isub, 1) := by decide +kernel
theorem d_Mo_widthOf_34 : decode m_Mo_widthOf.2.1 34 = .ok (.goto 5, 3) := by decide +kernel
theorem d_Mo_widthOf_37 : decode m_Mo_widthOf.2.1 37 = .ok (.bipush 32, 2) := by decide +kernel
theorem d_Mo_widthOf_39 : decode m_Mo_widthOf.2.1 39 = .ok (.ireturn, 1) := by decide +kernel
theorem t_Mo_widthOf_0 {d : Nat} {st : List Value} {x0 : Int32} {w : qk_W} {nc ns : Nat} {Q : Option Value ⊕ Nat → qk_W → Nat → Nat → Prop}   (kt : ¬ x0 = 0 → Ev d m_Mo_widthOf 8 [some (.int x0)] st w nc ns Q) (kf : x0 = 0 → Ev d m_Mo_widthOf 4 [some (.int x0)] st w nc ns Q) : Ev d m_Mo_widthOf 0 [some (.int x0)] st w nc ns Q := by
  refine ev_iload_n d_Mo_widthOf_0 rfl ?_
  exact ev_if_ne 8 d_Mo_widthOf_1 (by decide) kt kf
theorem t_Mo_widthOf_4 {d : Nat} {o0 : Option Value} {w : qk_W} {nc ns : Nat} {Q : Option Value ⊕ Nat → qk_W → Nat → Nat → Prop}   (hq : Q (.inl (some (.int 0))) w nc ns) : Ev d m_Mo_widthOf 4 [o0] [] w nc ns Q := by
  refine ev_iconst 0 d_Mo_widthOf_4 (by decide) ?_
  refine ev_goto 39 d_Mo_widthOf_5 (by decide) ?_
  exact ev_iret d_Mo_widthOf_39 rfl rfl hq
theorem t_Mo_widthOf_8 {d : Nat} {st : List Value} {x0 : Int32} {w : qk_W} {nc ns : Nat} {Q : Option Value ⊕ Nat → qk_W → Nat → Nat → Prop}   (kt : (6 : Int32) ≤ x0 → Ev d m_Mo_widthOf 22 [some (.int x0)] st w nc ns Q) (kf : ¬ ((6 : Int32) ≤ x0) → Ev d m_Mo_widthOf 14 [some (.int x0)] st w nc ns Q) : Ev d m_Mo_widthOf 8 [some (.int x0)] st w nc ns Q := by
  refine ev_iload_n d_Mo_widthOf_8 rfl ?_
  refine ev_bipush 6 d_Mo_widthOf_9 (by decide) ?_
  exact ev_icmp_ge 22 d_Mo_widthOf_11 (by decide) kt kf
theorem t_Mo_widthOf_14 {d : Nat} {x0 : Int32} {w : qk_W} {nc ns : Nat} {Q : Option Value ⊕ Nat → qk_W → Nat → Nat → Prop}   (hq : Q (.inl (some (.int (2 + (2 * x0))))) w nc ns) : Ev d m_Mo_widthOf 14 [some (.int x0)] [] w nc ns Q := by
  refine ev_iconst 2 d_Mo_widthOf_14 (by decide) ?_
  refine ev_iconst 2 d_Mo_widthOf_15 (by decide) ?_
  refine ev_iload_n d_Mo_widthOf_16 rfl ?_
  refine ev_imul d_Mo_widthOf_17 ?_
  refine ev_iadd d_Mo_widthOf_18 ?_
  refine ev_goto 39 d_Mo_widthOf_19 (by decide) ?_
  exact ev_iret d_Mo_widthOf_39 rfl rfl hq
theorem t_Mo_widthOf_22 {d : Nat} {st : List Value} {x0 : Int32} {w : qk_W} {nc ns : Nat} {Q : Option Value ⊕ Nat → qk_W → Nat → Nat → Prop}   (kt : (9 : Int32) ≤ x0 → Ev d m_Mo_widthOf 37 [some (.int x0)] st w nc ns Q) (kf : ¬ ((9 : Int32) ≤ x0) → Ev d m_Mo_widthOf 28 [some (.int x0)] st w nc ns Q) : Ev d m_Mo_widthOf 22 [some (.int x0)] st w nc ns Q := by
  refine ev_iload_n d_Mo_widthOf_22 rfl ?_
  refine ev_bipush 9 d_Mo_widthOf_23 (by decide) ?_
  exact ev_icmp_ge 37 d_Mo_widthOf_25 (by decide) kt kf
theorem t_Mo_widthOf_28 {d : Nat} {x0 : Int32} {w : qk_W} {nc ns : Nat} {Q : Option Value ⊕ Nat → qk_W → Nat → Nat → Prop}   (hq : Q (.inl (some (.int ((4 * x0) - 8)))) w nc ns) : Ev d m_Mo_widthOf 28 [some (.int x0)] [] w nc ns Q := by
  refine ev_iconst 4 d_Mo_widthOf_28 (by decide) ?_
  refine ev_iload_n d_Mo_widthOf_29 rfl ?_
  refine ev_imul d_Mo_widthOf_30 ?_
  refine ev_bipush 8 d_Mo_widthOf_31 (by decide) ?_
  refine ev_isub d_Mo_widthOf_33 ?_
  refine ev_goto 39 d_Mo_widthOf_34 (by decide) ?_
  exact ev_iret d_Mo_widthOf_39 rfl rfl hq
theorem t_Mo_widthOf_37 {d : Nat} {o0 : Option Value} {w : qk_W} {nc ns : Nat} {Q : Option Value ⊕ Nat → qk_W → Nat → Nat → Prop}   (hq : Q (.inl (some (.int 32))) w nc ns) : Ev d m_Mo_widthOf 37 [o0] [] w nc ns Q := by
  refine ev_bipush 32 d_Mo_widthOf_37 (by decide) ?_
  exact ev_iret d_Mo_widthOf_39 rfl rfl hq
/-! Mo_fits -/
theorem d_Mo_fits_0 : decode m_Mo_fits.2.1 0 = .ok (.iload_n 1, 1) := by decide +kernel
theorem d_Mo_fits_1 : decode m_Mo_fits.2.1 1 = .ok (.bipush 32, 2) := by decide +kernel
theorem d_Mo_fits_3 : decode m_Mo_fits.2.1 3 = .ok (.if_icmp .eq 34, 3) := by decide +kernel
theorem d_Mo_fits_6 : decode m_Mo_fits.2.1 6 = .ok (.iload_n 1, 1) := by decide +kernel
theorem d_Mo_fits_7 : decode m_Mo_fits.2.1 7 = .ok (.ifCond .ne 7, 3) := by decide +kernel
theorem d_Mo_fits_10 : decode m_Mo_fits.2.1 10 = .ok (.iload_n 0, 1) := by decide +kernel
theorem d_Mo_fits_11 : decode m_Mo_fits.2.1 11 = .ok (.ifCond .eq 26, 3) := by decide +kernel
theorem d_Mo_fits_14 : decode m_Mo_fits.2.1 14 = .ok (.iload_n 1, 1) := by decide +kernel
theorem d_Mo_fits_15 : decode m_Mo_fits.2.1 15 = .ok (.ifCond .le 26, 3) := by decide +kernel
theorem d_Mo_fits_18 : decode m_Mo_fits.2.1 18 = .ok (.iload_n 0, 1) := by decide +kernel
theorem d_Mo_fits_19 : decode m_Mo_fits.2.1 19 = .ok (.iconst 1, 1) := by decide +kernel
theorem d_Mo_fits_20 : decode m_Mo_fits.2.1 20 = .ok (.iload_n 1, 1) := by decide +kernel
theorem d_Mo_fits_21 : decode m_Mo_fits.2.1 21 = .ok (.iconst 1, 1) := by decide +kernel
theorem d_Mo_fits_22 : decode m_Mo_fits.2.1 22 = .ok (.isub, 1) := by decide +kernel
theorem d_Mo_fits_23 : decode m_Mo_fits.2.1 23 = .ok (.ishl, 1) := by decide +kernel
theorem d_Mo_fits_24 : decode m_Mo_fits.2.1 24 = .ok (.ineg, 1) := by decide +kernel
theorem d_Mo_fits_25 : decode m_Mo_fits.2.1 25 = .ok (.if_icmp .lt 16, 3) := by decide +kernel
theorem d_Mo_fits_28 : decode m_Mo_fits.2.1 28 = .ok (.iload_n 0, 1) := by decide +kernel
theorem d_Mo_fits_29 : decode m_Mo_fits.2.1 29 = .ok (.iconst 1, 1) := by decide +kernel
theorem d_Mo_fits_30 : decode m_Mo_fits.2.1 30 = .ok (.iload_n 1, 1) := by decide +kernel
theorem d_Mo_fits_31 : decode m_Mo_fits.2.1 31 = .ok (.iconst 1, 1) := by decide +kernel
theorem d_Mo_fits_32 : decode m_Mo_fits.2.1 32 = .ok (.isub, 1) := by decide +kernel
theorem d_Mo_fits_33 : decode m_Mo_fits.2.1 33 = .ok (.ishl, 1) := by decide +kernel
theorem d_Mo_fits_34 : decode m_Mo_fits.2.1 34 = .ok (.if_icmp .ge 7, 3) := by decide +kernel
theorem d_Mo_fits_37 : decode m_Mo_fits.2.1 37 = .ok (.iconst 1, 1) := by decide +kernel
theorem d_Mo_fits_38 : decode m_Mo_fits.2.1 38 = .ok (.goto 4, 3) := by decide +kernel
theorem d_Mo_fits_41 : decode m_Mo_fits.2.1 41 = .ok (.iconst 0, 1) := by decide +kernel
theorem d_Mo_fits_42 : decode m_Mo_fits.2.1 42 = .ok (.ireturn, 1) := by decide +kernel
theorem t_Mo_fits_0 {d : Nat} {st : List Value} {o0 : Option Value} {x1 : Int32} {w : qk_W} {nc ns : Nat} {Q : Option Value ⊕ Nat → qk_W → Nat → Nat → Prop}   (kt : x1 = (32 : Int32) → Ev d m_Mo_fits 37 [o0, some (.int x1)] st w nc ns Q) (kf : ¬ (x1 = (32 : Int32)) → Ev d m_Mo_fits 6 [o0, some (.int x1)] st w nc ns Q) : Ev d m_Mo_fits 0 [o0, some (.int x1)] st w nc ns Q := by
  refine ev_iload_n d_Mo_fits_0 rfl ?_
  refine ev_bipush 32 d_Mo_fits_1 (by decide) ?_
  exact ev_icmp_eq 37 d_Mo_fits_3 (by decide) kt kf
theorem t_Mo_fits_6 {d : Nat} {st : List Value} {o0 : Option Value} {x1 : Int32} {w : qk_W} {nc ns : Nat} {Q : Option Value ⊕ Nat → qk_W → Nat → Nat → Prop}   (kt : ¬ x1 = 0 → Ev d m_Mo_fits 14 [o0, some (.int x1)] st w nc ns Q) (kf : x1 = 0 → Ev d m_Mo_fits 10 [o0, some (.int x1)] st w nc ns Q) : Ev d m_Mo_fits 6 [o0, some (.int x1)] st w nc ns Q := by
  refine ev_iload_n d_Mo_fits_6 rfl ?_
  exact ev_if_ne 14 d_Mo_fits_7 (by decide) kt kf
theorem t_Mo_fits_10 {d : Nat} {st : List Value} {x0 : Int32} {o1 : Option Value} {w : qk_W} {nc ns : Nat} {Q : Option Value ⊕ Nat → qk_W → Nat → Nat → Prop}   (kt : x0 = 0 → Ev d m_Mo_fits 37 [some (.int x0), o1] st w nc ns Q) (kf : ¬ (x0 = 0) → Ev d m_Mo_fits 14 [some (.int x0), o1] st w nc ns Q) : Ev d m_Mo_fits 10 [some (.int x0), o1] st w nc ns Q := by
  refine ev_iload_n d_Mo_fits_10 rfl ?_
  exact ev_if_eq 37 d_Mo_fits_11 (by decide) kt kf
theorem t_Mo_fits_14 {d : Nat} {st : List Value} {o0 : Option Value} {x1 : Int32} {w : qk_W} {nc ns : Nat} {Q : Option Value ⊕ Nat → qk_W → Nat → Nat → Prop}   (kt : x1 ≤ 0 → Ev d m_Mo_fits 41 [o0, some (.int x1)] st w nc ns Q) (kf : ¬ (x1 ≤ 0) → Ev d m_Mo_fits 18 [o0, some (.int x1)] st w nc ns Q) : Ev d m_Mo_fits 14 [o0, some (.int x1)] st w nc ns Q := by
  refine ev_iload_n d_Mo_fits_14 rfl ?_
  exact ev_if_le 41 d_Mo_fits_15 (by decide) kt kf
theorem t_Mo_fits_18 {d : Nat} {st : List Value} {x0 : Int32} {x1 : Int32} {w : qk_W} {nc ns : Nat} {Q : Option Value ⊕ Nat → qk_W → Nat → Nat → Prop}   (kt : x0 < (-(qi_shl 1 (x1 - 1))) → Ev d m_Mo_fits 41 [some (.int x0), some (.int x1)] st w nc ns Q) (kf : ¬ (x0 < (-(qi_shl 1 (x1 - 1)))) → Ev d m_Mo_fits 28 [some (.int x0), some (.int x1)] st w nc ns Q) : Ev d m_Mo_fits 18 [some (.int x0), some (.int x1)] st w nc ns Q := by
  refine ev_iload_n d_Mo_fits_18 rfl ?_
  refine ev_iconst 1 d_Mo_fits_19 (by decide) ?_
  refine ev_iload_n d_Mo_fits_20 rfl ?_
  refine ev_iconst 1 d_Mo_fits_21 (by decide) ?_
  refine ev_isub d_Mo_fits_22 ?_
  refine ev_ishl d_Mo_fits_23 ?_
  refine ev_ineg d_Mo_fits_24 ?_
  exact ev_icmp_lt 41 d_Mo_fits_25 (by decide) kt kf
theorem t_Mo_fits_28 {d : Nat} {st : List Value} {x0 : Int32} {x1 : Int32} {w : qk_W} {nc ns : Nat} {Q : Option Value ⊕ Nat → qk_W → Nat → Nat → Prop}   (kt : (qi_shl 1 (x1 - 1)) ≤ x0 → Ev d m_Mo_fits 41 [some (.int x0), some (.int x1)] st w nc ns Q) (kf : ¬ ((qi_shl 1 (x1 - 1)) ≤ x0) → Ev d m_Mo_fits 37 [some (.int x0), some (.int x1)] st w nc ns Q) : Ev d m_Mo_fits 28 [some (.int x0), some (.int x1)] st w nc ns Q := by
  refine ev_iload_n d_Mo_fits_28 rfl ?_
  refine ev_iconst 1 d_Mo_fits_29 (by decide) ?_
  refine ev_iload_n d_Mo_fits_30 rfl ?_
  refine ev_iconst 1 d_Mo_fits_31 (by decide) ?_
  refine ev_isub d_Mo_fits_32 ?_
  refine ev_ishl d_Mo_fits_33 ?_
  exact ev_icmp_ge 41 d_Mo_fits_34 (by decide) kt kf
theorem t_Mo_fits_37 {d : Nat} {o0 : Option Value} {o1 : Option Value} {w : qk_W} {nc ns : Nat} {Q : Option Value ⊕ Nat → qk_W → Nat → Nat → Prop}   (hq : Q (.inl (some (.int 1))) w nc ns) : Ev d m_Mo_fits 37 [o0, o1] [] w nc ns Q := by
  refine ev_iconst 1 d_Mo_fits_37 (by decide) ?_
  refine ev_goto 42 d_Mo_fits_38 (by decide) ?_
  exact ev_iret d_Mo_fits_42 rfl rfl hq
theorem t_Mo_fits_41 {d : Nat} {o0 : Option Value} {o1 : Option Value} {w : qk_W} {nc ns : Nat} {Q : Option Value ⊕ Nat → qk_W → Nat → Nat → Prop}   (hq : Q (.inl (some (.int 0))) w nc ns) : Ev d m_Mo_fits 41 [o0, o1] [] w nc ns Q := by
  refine ev_iconst 0 d_Mo_fits_41 (by decide) ?_
  exact ev_iret d_Mo_fits_42 rfl rfl hq
/-! Mo_sizeOf -/
theorem d_Mo_sizeOf_0 : decode m_Mo_sizeOf.2.1 0 = .ok (.iload_n 3, 1) := by decide +kernel
theorem d_Mo_sizeOf_1 : decode m_Mo_sizeOf.2.1 1 = .ok (.iconst 1, 1) := by decide +kernel
theorem d_Mo_sizeOf_2 : decode m_Mo_sizeOf.2.1 2 = .ok (.isub, 1) := by decide +kernel
theorem d_Mo_sizeOf_3 : decode m_Mo_sizeOf.2.1 3 = .ok (.bipush 15, 2) := by decide +kernel
theorem d_Mo_sizeOf_5 : decode m_Mo_sizeOf.2.1 5 = .ok (.idiv, 1) := by decide +kernel
theorem d_Mo_sizeOf_6 : decode m_Mo_sizeOf.2.1 6 = .ok (.bipush 15, 2) := by decide +kernel
theorem d_Mo_sizeOf_8 : decode m_Mo_sizeOf.2.1 8 = .ok (.imul, 1) := by decide +kernel
theorem d_Mo_sizeOf_9 : decode m_Mo_sizeOf.2.1 9 = .ok (.istore 5, 2) := by decide +kernel
theorem d_Mo_sizeOf_11 : decode m_Mo_sizeOf.2.1 11 = .ok (.iload 4, 2) := by decide +kernel
theorem d_Mo_sizeOf_13 : decode m_Mo_sizeOf.2.1 13 = .ok (.istore 6, 2) := by decide +kernel
theorem d_Mo_sizeOf_15 : decode m_Mo_sizeOf.2.1 15 = .ok (.iload 5, 2) := by decide +kernel
theorem d_Mo_sizeOf_17 : decode m_Mo_sizeOf.2.1 17 = .ok (.iload_n 3, 1) := by decide +kernel
theorem d_Mo_sizeOf_18 : decode m_Mo_sizeOf.2.1 18 = .ok (.iconst 1, 1) := by decide +kernel
theorem d_Mo_sizeOf_19 : decode m_Mo_sizeOf.2.1 19 = .ok (.isub, 1) := by decide +kernel
theorem d_Mo_sizeOf_20 : decode m_Mo_sizeOf.2.1 20 = .ok (.if_icmp .ge 33, 3) := by decide +kernel
theorem d_Mo_sizeOf_23 : decode m_Mo_sizeOf.2.1 23 = .ok (.iload 6, 2) := by decide +kernel
theorem d_Mo_sizeOf_25 : decode m_Mo_sizeOf.2.1 25 = .ok (.iconst 4, 1) := by decide +kernel
theorem d_Mo_sizeOf_26 : decode m_Mo_sizeOf.2.1 26 = .ok (.iload_n 3, 1) := by decide +kernel
theorem d_Mo_sizeOf_27 : decode m_Mo_sizeOf.2.1 27 = .ok (.iconst 1, 1) := by decide +kernel
theorem d_Mo_sizeOf_28 : decode m_Mo_sizeOf.2.1 28 = .ok (.isub, 1) := by decide +kernel
theorem d_Mo_sizeOf_29 : decode m_Mo_sizeOf.2.1 29 = .ok (.iload 5, 2) := by decide +kernel
theorem d_Mo_sizeOf_31 : decode m_Mo_sizeOf.2.1 31 = .ok (.isub, 1) := by decide +kernel
theorem d_Mo_sizeOf_32 : decode m_Mo_sizeOf.2.1 32 = .ok (.aload_n 0, 1) := by decide +kernel
theorem d_Mo_sizeOf_33 : decode m_Mo_sizeOf.2.1 33 = .ok (.iload_n 1, 1) := by decide +kernel
theorem d_Mo_sizeOf_34 : decode m_Mo_sizeOf.2.1 34 = .ok (.iload_n 2, 1) := by decide +kernel
theorem d_Mo_sizeOf_35 : decode m_Mo_sizeOf.2.1 35 = .ok (.iload 5, 2) := by decide +kernel
theorem d_Mo_sizeOf_37 : decode m_Mo_sizeOf.2.1 37 = .ok (.iconst 1, 1) := by decide +kernel
theorem d_Mo_sizeOf_38 : decode m_Mo_sizeOf.2.1 38 = .ok (.iadd, 1) := by decide +kernel
theorem d_Mo_sizeOf_39 : decode m_Mo_sizeOf.2.1 39 = .ok (.iload_n 3, 1) := by decide +kernel
theorem d_Mo_sizeOf_40 : decode m_Mo_sizeOf.2.1 40 = .ok (.iconst 1, 1) := by decide +kernel
theorem d_Mo_sizeOf_41 : decode m_Mo_sizeOf.2.1 41 = .ok (.isub, 1) := by decide +kernel
theorem d_Mo_sizeOf_42 : decode m_Mo_sizeOf.2.1 42 = .ok (.invokevirtual 84, 3) := by decide +kernel
theorem d_Mo_sizeOf_45 : decode m_Mo_sizeOf.2.1 45 = .ok (.invokestatic 76, 3) := by decide +kernel
theorem d_Mo_sizeOf_48 : decode m_Mo_sizeOf.2.1 48 = .ok (.imul, 1) := by decide +kernel
theorem d_Mo_sizeOf_49 : decode m_Mo_sizeOf.2.1 49 = .ok (.iadd, 1) := by decide +kernel
theorem d_Mo_sizeOf_50 : decode m_Mo_sizeOf.2.1 50 = .ok (.iadd, 1) := by decide +kernel
theorem d_Mo_sizeOf_51 : decode m_Mo_sizeOf.2.1 51 = .ok (.istore 6, 2) := by decide +kernel
theorem d_Mo_sizeOf_53 : decode m_Mo_sizeOf.2.1 53 = .ok (.bipush 24, 2) := by decide +kernel
theorem d_Mo_sizeOf_55 : decode m_Mo_sizeOf.2.1 55 = .ok (.iload 6, 2) := by decide +kernel
theorem d_Mo_sizeOf_57 : decode m_Mo_sizeOf.2.1 57 = .ok (.bipush 7, 2) := by decide +kernel
theorem d_Mo_sizeOf_59 : decode m_Mo_sizeOf.2.1 59 = .ok (.iadd, 1) := by decide +kernel
theorem d_Mo_sizeOf_60 : decode m_Mo_sizeOf.2.1 60 = .ok (.bipush 8, 2) := by decide +kernel
theorem d_Mo_sizeOf_62 : decode m_Mo_sizeOf.2.1 62 = .ok (.idiv, 1) := by decide +kernel
theorem d_Mo_sizeOf_63 : decode m_Mo_sizeOf.2.1 63 = .ok (.iadd, 1) := by decide +kernel
theorem d_Mo_sizeOf_64 : decode m_Mo_sizeOf.2.1 64 = .ok (.ireturn, 1) := by decide +kernel
theorem t_Mo_sizeOf_0 {d : Nat} {st : List Value} {o0 : Option Value} {o1 : Option Value} {o2 : Option Value} {x3 : Int32} {x4 : Int32} {o5 : Option Value} {o6 : Option Value} {w : qk_W} {nc ns : Nat} {Q : Option Value ⊕ Nat → qk_W → Nat → Nat → Prop}  (hc1 : qk_c2 [o0, o1, o2, some (.int x3), some (.int x4), o5, o6] 5 = true) (kt : (x3 - 1) ≤ (((x3 - 1) / 15) * 15) → Ev d m_Mo_sizeOf 53 [o0, o1, o2, some (.int x3), some (.int x4), some (.int (((x3 - 1) / 15) * 15)), some (.int x4)] st w nc ns Q) (kf : ¬ ((x3 - 1) ≤ (((x3 - 1) / 15) * 15)) → Ev d m_Mo_sizeOf 23 [o0, o1, o2, some (.int x3), some (.int x4), some (.int (((x3 - 1) / 15) * 15)), some (.int x4)] st w nc ns Q) : Ev d m_Mo_sizeOf 0 [o0, o1, o2, some (.int x3), some (.int x4), o5, o6] st w nc ns Q := by
  refine ev_iload_n d_Mo_sizeOf_0 rfl ?_
  refine ev_iconst 1 d_Mo_sizeOf_1 (by decide) ?_
  refine ev_isub d_Mo_sizeOf_2 ?_
  refine ev_bipush 15 d_Mo_sizeOf_3 (by decide) ?_
  refine ev_idiv d_Mo_sizeOf_5 (by decide) ?_
  refine ev_bipush 15 d_Mo_sizeOf_6 (by decide) ?_
  refine ev_imul d_Mo_sizeOf_8 ?_
  refine ev_istore d_Mo_sizeOf_9 (by decide) hc1 ?_
  refine ev_iload d_Mo_sizeOf_11 rfl ?_
  refine ev_istore d_Mo_sizeOf_13 (by decide) rfl ?_
  refine ev_iload d_Mo_sizeOf_15 rfl ?_
  refine ev_iload_n d_Mo_sizeOf_17 rfl ?_
  refine ev_iconst 1 d_Mo_sizeOf_18 (by decide) ?_
  refine ev_isub d_Mo_sizeOf_19 ?_
  exact ev_icmp_ge 53 d_Mo_sizeOf_20 (by decide) kt kf
theorem t_Mo_sizeOf_23 {d : Nat} {st : List Value} {a0 : Nat} {x1 : Int32} {x2 : Int32} {x3 : Int32} {o4 : Option Value} {x5 : Int32} {x6 : Int32} {fsb : List Value} {w : qk_W} {nc ns : Nat} {Q : Option Value ⊕ Nat → qk_W → Nat → Nat → Prop}  (hb : wo w a0 11 fsb) (h8 : ((.int ((x3 - 1) - x5) :: .int 4 :: .int x6 :: st).map fun v => Value.category v).sum ≤ 8) (k : Ev d m_Mo_least 0 [some (.ref a0), some (.int x1), some (.int x2), some (.int (x5 + 1)), some (.int (x3 - 1)), none, none, none] [] w nc ns (fun r w1 nc1 ns1 => match r with | .inl v => Ev (d + 1) m_Mo_sizeOf 45 [some (.ref a0), some (.int x1), some (.int x2), some (.int x3), o4, some (.int x5), some (.int x6)] (v.toList ++ (.int ((x3 - 1) - x5) :: .int 4 :: .int x6 :: st)) w1 nc1 ns1 Q | .inr x => Q (.inr x) w1 nc1 ns1)) : Ev (d + 1) m_Mo_sizeOf 23 [some (.ref a0), some (.int x1), some (.int x2), some (.int x3), o4, some (.int x5), some (.int x6)] st w nc ns Q := by
  refine ev_iload d_Mo_sizeOf_23 rfl ?_
  refine ev_iconst 4 d_Mo_sizeOf_25 (by decide) ?_
  refine ev_iload_n d_Mo_sizeOf_26 rfl ?_
  refine ev_iconst 1 d_Mo_sizeOf_27 (by decide) ?_
  refine ev_isub d_Mo_sizeOf_28 ?_
  refine ev_iload d_Mo_sizeOf_29 rfl ?_
  refine ev_isub d_Mo_sizeOf_31 ?_
  refine ev_aload_n d_Mo_sizeOf_32 rfl rfl ?_
  refine ev_iload_n d_Mo_sizeOf_33 rfl ?_
  refine ev_iload_n d_Mo_sizeOf_34 rfl ?_
  refine ev_iload d_Mo_sizeOf_35 rfl ?_
  refine ev_iconst 1 d_Mo_sizeOf_37 (by decide) ?_
  refine ev_iadd d_Mo_sizeOf_38 ?_
  refine ev_iload_n d_Mo_sizeOf_39 rfl ?_
  refine ev_iconst 1 d_Mo_sizeOf_40 (by decide) ?_
  refine ev_isub d_Mo_sizeOf_41 ?_
  exact ev_call (M' := m_Mo_least) (As := [.ref a0, .int x1, .int x2, .int (x5 + 1), .int (x3 - 1)]) (st := (.int ((x3 - 1) - x5) :: .int 4 :: .int x6 :: st)) d_Mo_sizeOf_42 i_Mo_least (fun h => absurd h (by decide +kernel)) cw_Mo_84 rfl rfl ⟨hb.1, 11, _, _, hb.2, rfl, rfl⟩ rfl (Nat.le_of_ble_eq_true rfl) h8 k
theorem t_Mo_sizeOf_45 {d : Nat} {st : List Value} {o0 : Option Value} {o1 : Option Value} {o2 : Option Value} {o3 : Option Value} {o4 : Option Value} {o5 : Option Value} {o6 : Option Value} {y0 : Int32} {w : qk_W} {nc ns : Nat} {Q : Option Value ⊕ Nat → qk_W → Nat → Nat → Prop}  (h8 : (st.map fun v => Value.category v).sum ≤ 8) (k : Ev d m_Mo_widthOf 0 [some (.int y0)] [] w nc ns (fun r w1 nc1 ns1 => match r with | .inl v => Ev (d + 1) m_Mo_sizeOf 48 [o0, o1, o2, o3, o4, o5, o6] (v.toList ++ st) w1 nc1 ns1 Q | .inr x => Q (.inr x) w1 nc1 ns1)) : Ev (d + 1) m_Mo_sizeOf 45 [o0, o1, o2, o3, o4, o5, o6] (.int y0 :: st) w nc ns Q := by
  exact ev_call (M' := m_Mo_widthOf) (As := [.int y0]) (st := st) d_Mo_sizeOf_45 i_Mo_widthOf (fun h => absurd h (by decide +kernel)) cw_Mo_76 rfl rfl trivial rfl (Nat.le_of_ble_eq_true rfl) h8 k
theorem t_Mo_sizeOf_48 {d : Nat} {o0 : Option Value} {o1 : Option Value} {o2 : Option Value} {o3 : Option Value} {o4 : Option Value} {o5 : Option Value} {o6 : Option Value} {y0 : Int32} {y1 : Int32} {y2 : Int32} {y3 : Int32} {w : qk_W} {nc ns : Nat} {Q : Option Value ⊕ Nat → qk_W → Nat → Nat → Prop}  (hc1 : qk_c2 [o0, o1, o2, o3, o4, o5, o6] 6 = true) (hq : Q (.inl (some (.int (24 + (((y3 + (y2 + (y1 * y0))) + 7) / 8))))) w nc ns) : Ev d m_Mo_sizeOf 48 [o0, o1, o2, o3, o4, o5, o6] [.int y0, .int y1, .int y2, .int y3] w nc ns Q := by
  refine ev_imul d_Mo_sizeOf_48 ?_
  refine ev_iadd d_Mo_sizeOf_49 ?_
  refine ev_iadd d_Mo_sizeOf_50 ?_
  refine ev_istore d_Mo_sizeOf_51 (by decide) hc1 ?_
  refine ev_bipush 24 d_Mo_sizeOf_53 (by decide) ?_
  refine ev_iload d_Mo_sizeOf_55 rfl ?_
  refine ev_bipush 7 d_Mo_sizeOf_57 (by decide) ?_
  refine ev_iadd d_Mo_sizeOf_59 ?_
  refine ev_bipush 8 d_Mo_sizeOf_60 (by decide) ?_
  refine ev_idiv d_Mo_sizeOf_62 (by decide) ?_
  refine ev_iadd d_Mo_sizeOf_63 ?_
  exact ev_iret d_Mo_sizeOf_64 rfl rfl hq
theorem t_Mo_sizeOf_53 {d : Nat} {o0 : Option Value} {o1 : Option Value} {o2 : Option Value} {o3 : Option Value} {o4 : Option Value} {o5 : Option Value} {x6 : Int32} {w : qk_W} {nc ns : Nat} {Q : Option Value ⊕ Nat → qk_W → Nat → Nat → Prop}   (hq : Q (.inl (some (.int (24 + ((x6 + 7) / 8))))) w nc ns) : Ev d m_Mo_sizeOf 53 [o0, o1, o2, o3, o4, o5, some (.int x6)] [] w nc ns Q := by
  refine ev_bipush 24 d_Mo_sizeOf_53 (by decide) ?_
  refine ev_iload d_Mo_sizeOf_55 rfl ?_
  refine ev_bipush 7 d_Mo_sizeOf_57 (by decide) ?_
  refine ev_iadd d_Mo_sizeOf_59 ?_
  refine ev_bipush 8 d_Mo_sizeOf_60 (by decide) ?_
  refine ev_idiv d_Mo_sizeOf_62 (by decide) ?_
  refine ev_iadd d_Mo_sizeOf_63 ?_
  exact ev_iret d_Mo_sizeOf_64 rfl rfl hq
/-! Mo_close -/
theorem fl_Mo_88 : qk_fl "QuakeLinkModel" 88 11 11 := ⟨_, rfl, by decide, rfl, (lw_i4 _ (List.mem_of_getElem? (i := 187) rfl))⟩
theorem cw_Mo_91 : qk_cw "QuakeLinkModel" m_Mo_ringFirst.1 (.invokevirtual 91) := ⟨(lw_i5 _ (List.mem_of_getElem? (i := 77) rfl)), (lw_i5 _ (List.mem_of_getElem? (i := 79) rfl)), (lw_i0 _ (List.mem_of_getElem? (i := 26) rfl))⟩
theorem d_Mo_close_0 : decode m_Mo_close.2.1 0 = .ok (.aload_n 0, 1) := by decide +kernel
theorem d_Mo_close_1 : decode m_Mo_close.2.1 1 = .ok (.getfield 27, 3) := by decide +kernel
theorem d_Mo_close_4 : decode m_Mo_close.2.1 4 = .ok (.aload_n 0, 1) := by decide +kernel
theorem d_Mo_close_5 : decode m_Mo_close.2.1 5 = .ok (.getfield 88, 3) := by decide +kernel
theorem d_Mo_close_8 : decode m_Mo_close.2.1 8 = .ok (.iload_n 1, 1) := by decide +kernel
theorem d_Mo_close_9 : decode m_Mo_close.2.1 9 = .ok (.iastore, 1) := by decide +kernel
theorem d_Mo_close_10 : decode m_Mo_close.2.1 10 = .ok (.aload_n 0, 1) := by decide +kernel
theorem d_Mo_close_11 : decode m_Mo_close.2.1 11 = .ok (.getfield 30, 3) := by decide +kernel
theorem d_Mo_close_14 : decode m_Mo_close.2.1 14 = .ok (.aload_n 0, 1) := by decide +kernel
theorem d_Mo_close_15 : decode m_Mo_close.2.1 15 = .ok (.getfield 88, 3) := by decide +kernel
theorem d_Mo_close_18 : decode m_Mo_close.2.1 18 = .ok (.aload_n 0, 1) := by decide +kernel
theorem d_Mo_close_19 : decode m_Mo_close.2.1 19 = .ok (.getfield 17, 3) := by decide +kernel
theorem d_Mo_close_22 : decode m_Mo_close.2.1 22 = .ok (.iload_n 1, 1) := by decide +kernel
theorem d_Mo_close_23 : decode m_Mo_close.2.1 23 = .ok (.iaload, 1) := by decide +kernel
theorem d_Mo_close_24 : decode m_Mo_close.2.1 24 = .ok (.iastore, 1) := by decide +kernel
theorem d_Mo_close_25 : decode m_Mo_close.2.1 25 = .ok (.aload_n 0, 1) := by decide +kernel
theorem d_Mo_close_26 : decode m_Mo_close.2.1 26 = .ok (.getfield 33, 3) := by decide +kernel
theorem d_Mo_close_29 : decode m_Mo_close.2.1 29 = .ok (.aload_n 0, 1) := by decide +kernel
theorem d_Mo_close_30 : decode m_Mo_close.2.1 30 = .ok (.getfield 88, 3) := by decide +kernel
theorem d_Mo_close_33 : decode m_Mo_close.2.1 33 = .ok (.aload_n 0, 1) := by decide +kernel
theorem d_Mo_close_34 : decode m_Mo_close.2.1 34 = .ok (.getfield 14, 3) := by decide +kernel
theorem d_Mo_close_37 : decode m_Mo_close.2.1 37 = .ok (.iload_n 1, 1) := by decide +kernel
theorem d_Mo_close_38 : decode m_Mo_close.2.1 38 = .ok (.iaload, 1) := by decide +kernel
theorem d_Mo_close_39 : decode m_Mo_close.2.1 39 = .ok (.aload_n 0, 1) := by decide +kernel
theorem d_Mo_close_40 : decode m_Mo_close.2.1 40 = .ok (.getfield 17, 3) := by decide +kernel
theorem d_Mo_close_43 : decode m_Mo_close.2.1 43 = .ok (.iload_n 1, 1) := by decide +kernel
theorem d_Mo_close_44 : decode m_Mo_close.2.1 44 = .ok (.iaload, 1) := by decide +kernel
theorem d_Mo_close_45 : decode m_Mo_close.2.1 45 = .ok (.isub, 1) := by decide +kernel
theorem d_Mo_close_46 : decode m_Mo_close.2.1 46 = .ok (.iastore, 1) := by decide +kernel
theorem d_Mo_close_47 : decode m_Mo_close.2.1 47 = .ok (.aload_n 0, 1) := by decide +kernel
theorem d_Mo_close_48 : decode m_Mo_close.2.1 48 = .ok (.getfield 36, 3) := by decide +kernel
theorem d_Mo_close_51 : decode m_Mo_close.2.1 51 = .ok (.aload_n 0, 1) := by decide +kernel
theorem d_Mo_close_52 : decode m_Mo_close.2.1 52 = .ok (.getfield 88, 3) := by decide +kernel
theorem d_Mo_close_55 : decode m_Mo_close.2.1 55 = .ok (.aload_n 0, 1) := by decide +kernel
theorem d_Mo_close_56 : decode m_Mo_close.2.1 56 = .ok (.getfield 23, 3) := by decide +kernel
theorem d_Mo_close_59 : decode m_Mo_close.2.1 59 = .ok (.iastore, 1) := by decide +kernel
theorem d_Mo_close_60 : decode m_Mo_close.2.1 60 = .ok (.aload_n 0, 1) := by decide +kernel
theorem d_Mo_close_61 : decode m_Mo_close.2.1 61 = .ok (.getfield 39, 3) := by decide +kernel
theorem d_Mo_close_64 : decode m_Mo_close.2.1 64 = .ok (.aload_n 0, 1) := by decide +kernel
theorem d_Mo_close_65 : decode m_Mo_close.2.1 65 = .ok (.getfield 88, 3) := by decide +kernel
theorem d_Mo_close_68 : decode m_Mo_close.2.1 68 = .ok (.iconst 1, 1) := by decide +kernel
theorem d_Mo_close_69 : decode m_Mo_close.2.1 69 = .ok (.bastore, 1) := by decide +kernel
theorem d_Mo_close_70 : decode m_Mo_close.2.1 70 = .ok (.aload_n 0, 1) := by decide +kernel
theorem d_Mo_close_71 : decode m_Mo_close.2.1 71 = .ok (.dup, 1) := by decide +kernel
theorem d_Mo_close_72 : decode m_Mo_close.2.1 72 = .ok (.getfield 88, 3) := by decide +kernel
theorem d_Mo_close_75 : decode m_Mo_close.2.1 75 = .ok (.iconst 1, 1) := by decide +kernel
theorem d_Mo_close_76 : decode m_Mo_close.2.1 76 = .ok (.iadd, 1) := by decide +kernel
theorem d_Mo_close_77 : decode m_Mo_close.2.1 77 = .ok (.putfield 88, 3) := by decide +kernel
theorem d_Mo_close_80 : decode m_Mo_close.2.1 80 = .ok (.aload_n 0, 1) := by decide +kernel
theorem d_Mo_close_81 : decode m_Mo_close.2.1 81 = .ok (.getfield 17, 3) := by decide +kernel
theorem d_Mo_close_84 : decode m_Mo_close.2.1 84 = .ok (.iload_n 1, 1) := by decide +kernel
theorem d_Mo_close_85 : decode m_Mo_close.2.1 85 = .ok (.aload_n 0, 1) := by decide +kernel
theorem d_Mo_close_86 : decode m_Mo_close.2.1 86 = .ok (.getfield 14, 3) := by decide +kernel
theorem d_Mo_close_89 : decode m_Mo_close.2.1 89 = .ok (.iload_n 1, 1) := by decide +kernel
theorem d_Mo_close_90 : decode m_Mo_close.2.1 90 = .ok (.iaload, 1) := by decide +kernel
theorem d_Mo_close_91 : decode m_Mo_close.2.1 91 = .ok (.iastore, 1) := by decide +kernel
theorem d_Mo_close_92 : decode m_Mo_close.2.1 92 = .ok (.aload_n 0, 1) := by decide +kernel
theorem d_Mo_close_93 : decode m_Mo_close.2.1 93 = .ok (.getfield 20, 3) := by decide +kernel
theorem d_Mo_close_96 : decode m_Mo_close.2.1 96 = .ok (.iload_n 1, 1) := by decide +kernel
theorem d_Mo_close_97 : decode m_Mo_close.2.1 97 = .ok (.iconst 0, 1) := by decide +kernel
theorem d_Mo_close_98 : decode m_Mo_close.2.1 98 = .ok (.iastore, 1) := by decide +kernel
theorem d_Mo_close_99 : decode m_Mo_close.2.1 99 = .ok (.aload_n 0, 1) := by decide +kernel
theorem d_Mo_close_100 : decode m_Mo_close.2.1 100 = .ok (.iload_n 1, 1) := by decide +kernel
theorem d_Mo_close_101 : decode m_Mo_close.2.1 101 = .ok (.invokevirtual 91, 3) := by decide +kernel
theorem d_Mo_close_104 : decode m_Mo_close.2.1 104 = .ok (.istore_n 2, 1) := by decide +kernel
theorem d_Mo_close_105 : decode m_Mo_close.2.1 105 = .ok (.iconst 0, 1) := by decide +kernel
theorem d_Mo_close_106 : decode m_Mo_close.2.1 106 = .ok (.istore_n 3, 1) := by decide +kernel
theorem d_Mo_close_107 : decode m_Mo_close.2.1 107 = .ok (.iload_n 3, 1) := by decide +kernel
theorem d_Mo_close_108 : decode m_Mo_close.2.1 108 = .ok (.iload_n 2, 1) := by decide +kernel
theorem d_Mo_close_109 : decode m_Mo_close.2.1 109 = .ok (.if_icmp .ge 39, 3) := by decide +kernel
theorem d_Mo_close_112 : decode m_Mo_close.2.1 112 = .ok (.aload_n 0, 1) := by decide +kernel
theorem d_Mo_close_113 : decode m_Mo_close.2.1 113 = .ok (.getfield 39, 3) := by decide +kernel
theorem d_Mo_close_116 : decode m_Mo_close.2.1 116 = .ok (.iload_n 3, 1) := by decide +kernel
theorem d_Mo_close_117 : decode m_Mo_close.2.1 117 = .ok (.aload_n 0, 1) := by decide +kernel
theorem d_Mo_close_118 : decode m_Mo_close.2.1 118 = .ok (.getfield 39, 3) := by decide +kernel
theorem d_Mo_close_121 : decode m_Mo_close.2.1 121 = .ok (.iload_n 3, 1) := by decide +kernel
theorem d_Mo_close_122 : decode m_Mo_close.2.1 122 = .ok (.baload, 1) := by decide +kernel
theorem d_Mo_close_123 : decode m_Mo_close.2.1 123 = .ok (.ifCond .eq 17, 3) := by decide +kernel
theorem d_Mo_close_126 : decode m_Mo_close.2.1 126 = .ok (.aload_n 0, 1) := by decide +kernel
theorem d_Mo_close_127 : decode m_Mo_close.2.1 127 = .ok (.getfield 27, 3) := by decide +kernel
theorem d_Mo_close_130 : decode m_Mo_close.2.1 130 = .ok (.iload_n 3, 1) := by decide +kernel
theorem d_Mo_close_131 : decode m_Mo_close.2.1 131 = .ok (.iaload, 1) := by decide +kernel
theorem d_Mo_close_132 : decode m_Mo_close.2.1 132 = .ok (.iload_n 1, 1) := by decide +kernel
theorem d_Mo_close_133 : decode m_Mo_close.2.1 133 = .ok (.if_icmp .eq 7, 3) := by decide +kernel
theorem d_Mo_close_136 : decode m_Mo_close.2.1 136 = .ok (.iconst 1, 1) := by decide +kernel
theorem d_Mo_close_137 : decode m_Mo_close.2.1 137 = .ok (.goto 4, 3) := by decide +kernel
theorem d_Mo_close_140 : decode m_Mo_close.2.1 140 = .ok (.iconst 0, 1) := by decide +kernel
theorem d_Mo_close_141 : decode m_Mo_close.2.1 141 = .ok (.bastore, 1) := by decide +kernel
theorem d_Mo_close_142 : decode m_Mo_close.2.1 142 = .ok (.iinc 3 1, 3) := by decide +kernel
theorem d_Mo_close_145 : decode m_Mo_close.2.1 145 = .ok (.goto (-38), 3) := by decide +kernel
theorem d_Mo_close_148 : decode m_Mo_close.2.1 148 = .ok (.return_, 1) := by decide +kernel
theorem t_Mo_close_0 {d : Nat} {st : List Value} {a0 : Nat} {x1 : Int32} {o2 : Option Value} {o3 : Option Value} {fs2 : List Value} {c4 : Nat} {n8 : Int32} {n10 : Nat} {f11 : Nat → Int32} {w : qk_W} {nc ns : Nat} {Q : Option Value ⊕ Nat → qk_W → Nat → Nat → Prop}  (hw1 : wo w a0 11 fs2) (hf3 : fs2[6]? = some (.ref c4)) (hf7 : fs2[11]? = some (.int n8)) (ha9 : wi w c4 n10 f11) (hi : vp_in n8 n10) (h16 : 16 ≤ c4) (k : Ev d m_Mo_close 10 [some (.ref a0), some (.int x1), o2, o3] st (qk_set w c4 (.inl (.int, n10, .inl (upd f11 n8.toNatClampNeg x1)))) nc ns Q) : Ev d m_Mo_close 0 [some (.ref a0), some (.int x1), o2, o3] st w nc ns Q := by
  refine ev_aload_n d_Mo_close_0 rfl rfl ?_
  refine ev_getf d_Mo_close_1 fl_Mo_27 hw1.1 hw1.2 hf3 ?_
  refine ev_aload_n d_Mo_close_4 rfl rfl ?_
  refine ev_getf d_Mo_close_5 fl_Mo_88 hw1.1 hw1.2 hf7 ?_
  refine ev_iload_n d_Mo_close_8 rfl ?_
  exact ev_iast d_Mo_close_9 h16 ha9 hi k
theorem t_Mo_close_10 {d : Nat} {st : List Value} {a0 : Nat} {x1 : Int32} {o2 : Option Value} {o3 : Option Value} {fs2 : List Value} {c4 : Nat} {n8 : Int32} {c12 : Nat} {n14 : Nat} {f15 : Nat → Int32} {n18 : Nat} {f19 : Nat → Int32} {w : qk_W} {nc ns : Nat} {Q : Option Value ⊕ Nat → qk_W → Nat → Nat → Prop}  (hw1 : wo w a0 11 fs2) (hf3 : fs2[7]? = some (.ref c4)) (hf7 : fs2[11]? = some (.int n8)) (hf11 : fs2[3]? = some (.ref c12)) (ha13 : wi w c12 n14 f15) (hi16 : vp_in x1 n14) (ha17 : wi w c4 n18 f19) (hi : vp_in n8 n18) (h16 : 16 ≤ c4) (k : Ev d m_Mo_close 25 [some (.ref a0), some (.int x1), o2, o3] st (qk_set w c4 (.inl (.int, n18, .inl (upd f19 n8.toNatClampNeg (f15 x1.toNatClampNeg))))) nc ns Q) : Ev d m_Mo_close 10 [some (.ref a0), some (.int x1), o2, o3] st w nc ns Q := by
  refine ev_aload_n d_Mo_close_10 rfl rfl ?_
  refine ev_getf d_Mo_close_11 fl_Mo_30 hw1.1 hw1.2 hf3 ?_
  refine ev_aload_n d_Mo_close_14 rfl rfl ?_
  refine ev_getf d_Mo_close_15 fl_Mo_88 hw1.1 hw1.2 hf7 ?_
  refine ev_aload_n d_Mo_close_18 rfl rfl ?_
  refine ev_getf d_Mo_close_19 fl_Mo_17 hw1.1 hw1.2 hf11 ?_
  refine ev_iload_n d_Mo_close_22 rfl ?_
  refine ev_iald d_Mo_close_23 ha13 hi16 ?_
  exact ev_iast d_Mo_close_24 h16 ha17 hi k
theorem t_Mo_close_25 {d : Nat} {st : List Value} {a0 : Nat} {x1 : Int32} {o2 : Option Value} {o3 : Option Value} {fs2 : List Value} {c4 : Nat} {n8 : Int32} {c12 : Nat} {n14 : Nat} {f15 : Nat → Int32} {c20 : Nat} {n22 : Nat} {f23 : Nat → Int32} {n26 : Nat} {f27 : Nat → Int32} {w : qk_W} {nc ns : Nat} {Q : Option Value ⊕ Nat → qk_W → Nat → Nat → Prop}  (hw1 : wo w a0 11 fs2) (hf3 : fs2[8]? = some (.ref c4)) (hf7 : fs2[11]? = some (.int n8)) (hf11 : fs2[2]? = some (.ref c12)) (ha13 : wi w c12 n14 f15) (hi16 : vp_in x1 n14) (hf19 : fs2[3]? = some (.ref c20)) (ha21 : wi w c20 n22 f23) (hi24 : vp_in x1 n22) (ha25 : wi w c4 n26 f27) (hi : vp_in n8 n26) (h16 : 16 ≤ c4) (k : Ev d m_Mo_close 47 [some (.ref a0), some (.int x1), o2, o3] st (qk_set w c4 (.inl (.int, n26, .inl (upd f27 n8.toNatClampNeg ((f15 x1.toNatClampNeg) - (f23 x1.toNatClampNeg)))))) nc ns Q) : Ev d m_Mo_close 25 [some (.ref a0), some (.int x1), o2, o3] st w nc ns Q := by
  refine ev_aload_n d_Mo_close_25 rfl rfl ?_
  refine ev_getf d_Mo_close_26 fl_Mo_33 hw1.1 hw1.2 hf3 ?_
  refine ev_aload_n d_Mo_close_29 rfl rfl ?_
  refine ev_getf d_Mo_close_30 fl_Mo_88 hw1.1 hw1.2 hf7 ?_
  refine ev_aload_n d_Mo_close_33 rfl rfl ?_
  refine ev_getf d_Mo_close_34 fl_Mo_14 hw1.1 hw1.2 hf11 ?_
  refine ev_iload_n d_Mo_close_37 rfl ?_
  refine ev_iald d_Mo_close_38 ha13 hi16 ?_
  refine ev_aload_n d_Mo_close_39 rfl rfl ?_
  refine ev_getf d_Mo_close_40 fl_Mo_17 hw1.1 hw1.2 hf19 ?_
  refine ev_iload_n d_Mo_close_43 rfl ?_
  refine ev_iald d_Mo_close_44 ha21 hi24 ?_
  refine ev_isub d_Mo_close_45 ?_
  exact ev_iast d_Mo_close_46 h16 ha25 hi k
theorem t_Mo_close_47 {d : Nat} {st : List Value} {a0 : Nat} {o1 : Option Value} {o2 : Option Value} {o3 : Option Value} {fs2 : List Value} {c4 : Nat} {n8 : Int32} {n12 : Int32} {n14 : Nat} {f15 : Nat → Int32} {w : qk_W} {nc ns : Nat} {Q : Option Value ⊕ Nat → qk_W → Nat → Nat → Prop}  (hw1 : wo w a0 11 fs2) (hf3 : fs2[9]? = some (.ref c4)) (hf7 : fs2[11]? = some (.int n8)) (hf11 : fs2[5]? = some (.int n12)) (ha13 : wi w c4 n14 f15) (hi : vp_in n8 n14) (h16 : 16 ≤ c4) (k : Ev d m_Mo_close 60 [some (.ref a0), o1, o2, o3] st (qk_set w c4 (.inl (.int, n14, .inl (upd f15 n8.toNatClampNeg n12)))) nc ns Q) : Ev d m_Mo_close 47 [some (.ref a0), o1, o2, o3] st w nc ns Q := by
  refine ev_aload_n d_Mo_close_47 rfl rfl ?_
  refine ev_getf d_Mo_close_48 fl_Mo_36 hw1.1 hw1.2 hf3 ?_
  refine ev_aload_n d_Mo_close_51 rfl rfl ?_
  refine ev_getf d_Mo_close_52 fl_Mo_88 hw1.1 hw1.2 hf7 ?_
  refine ev_aload_n d_Mo_close_55 rfl rfl ?_
  refine ev_getf d_Mo_close_56 fl_Mo_23 hw1.1 hw1.2 hf11 ?_
  exact ev_iast d_Mo_close_59 h16 ha13 hi k
theorem t_Mo_close_60 {d : Nat} {st : List Value} {a0 : Nat} {o1 : Option Value} {o2 : Option Value} {o3 : Option Value} {fs2 : List Value} {c4 : Nat} {n8 : Int32} {n10 : Nat} {f11 : Nat → Int32} {w : qk_W} {nc ns : Nat} {Q : Option Value ⊕ Nat → qk_W → Nat → Nat → Prop}  (hw1 : wo w a0 11 fs2) (hf3 : fs2[10]? = some (.ref c4)) (hf7 : fs2[11]? = some (.int n8)) (ha9 : wz w c4 n10 f11) (hi : vp_in n8 n10) (k : Ev d m_Mo_close 70 [some (.ref a0), o1, o2, o3] st (qk_set w c4 (.inl (.boolean, n10, .inl (upd f11 n8.toNatClampNeg 1)))) nc ns Q) : Ev d m_Mo_close 60 [some (.ref a0), o1, o2, o3] st w nc ns Q := by
  refine ev_aload_n d_Mo_close_60 rfl rfl ?_
  refine ev_getf d_Mo_close_61 fl_Mo_39 hw1.1 hw1.2 hf3 ?_
  refine ev_aload_n d_Mo_close_64 rfl rfl ?_
  refine ev_getf d_Mo_close_65 fl_Mo_88 hw1.1 hw1.2 hf7 ?_
  refine ev_iconst 1 d_Mo_close_68 (by decide) ?_
  exact ev_zast d_Mo_close_69 ha9.1 ha9.2 hi rfl k
theorem t_Mo_close_70 {d : Nat} {st : List Value} {a0 : Nat} {o1 : Option Value} {o2 : Option Value} {o3 : Option Value} {fs2 : List Value} {n4 : Int32} {w : qk_W} {nc ns : Nat} {Q : Option Value ⊕ Nat → qk_W → Nat → Nat → Prop}  (hw1 : wo w a0 11 fs2) (hf3 : fs2[11]? = some (.int n4)) (hk : 11 < fs2.length) (k : Ev d m_Mo_close 80 [some (.ref a0), o1, o2, o3] st (qk_set w a0 (.inr (11, fs2.set 11 (.int (n4 + 1))))) nc ns Q) : Ev d m_Mo_close 70 [some (.ref a0), o1, o2, o3] st w nc ns Q := by
  refine ev_aload_n d_Mo_close_70 rfl rfl ?_
  refine ev_dup d_Mo_close_71 rfl ?_
  refine ev_getf d_Mo_close_72 fl_Mo_88 hw1.1 hw1.2 hf3 ?_
  refine ev_iconst 1 d_Mo_close_75 (by decide) ?_
  refine ev_iadd d_Mo_close_76 ?_
  exact ev_putf d_Mo_close_77 fl_Mo_88 rfl hw1.1 hw1.2 hk (qk_fitI _) k
theorem t_Mo_close_80 {d : Nat} {st : List Value} {a0 : Nat} {x1 : Int32} {o2 : Option Value} {o3 : Option Value} {fs2 : List Value} {c4 : Nat} {c8 : Nat} {n10 : Nat} {f11 : Nat → Int32} {n14 : Nat} {f15 : Nat → Int32} {w : qk_W} {nc ns : Nat} {Q : Option Value ⊕ Nat → qk_W → Nat → Nat → Prop}  (hw1 : wo w a0 11 fs2) (hf3 : fs2[3]? = some (.ref c4)) (hf7 : fs2[2]? = some (.ref c8)) (ha9 : wi w c8 n10 f11) (hi12 : vp_in x1 n10) (ha13 : wi w c4 n14 f15) (hi : vp_in x1 n14) (h16 : 16 ≤ c4) (k : Ev d m_Mo_close 92 [some (.ref a0), some (.int x1), o2, o3] st (qk_set w c4 (.inl (.int, n14, .inl (upd f15 x1.toNatClampNeg (f11 x1.toNatClampNeg))))) nc ns Q) : Ev d m_Mo_close 80 [some (.ref a0), some (.int x1), o2, o3] st w nc ns Q := by
  refine ev_aload_n d_Mo_close_80 rfl rfl ?_
  refine ev_getf d_Mo_close_81 fl_Mo_17 hw1.1 hw1.2 hf3 ?_
  refine ev_iload_n d_Mo_close_84 rfl ?_
  refine ev_aload_n d_Mo_close_85 rfl rfl ?_
  refine ev_getf d_Mo_close_86 fl_Mo_14 hw1.1 hw1.2 hf7 ?_
  refine ev_iload_n d_Mo_close_89 rfl ?_
  refine ev_iald d_Mo_close_90 ha9 hi12 ?_
  exact ev_iast d_Mo_close_91 h16 ha13 hi k
theorem t_Mo_close_92 {d : Nat} {st : List Value} {a0 : Nat} {x1 : Int32} {o2 : Option Value} {o3 : Option Value} {fs2 : List Value} {c4 : Nat} {n6 : Nat} {f7 : Nat → Int32} {w : qk_W} {nc ns : Nat} {Q : Option Value ⊕ Nat → qk_W → Nat → Nat → Prop}  (hw1 : wo w a0 11 fs2) (hf3 : fs2[4]? = some (.ref c4)) (ha5 : wi w c4 n6 f7) (hi : vp_in x1 n6) (h16 : 16 ≤ c4) (k : Ev d m_Mo_close 99 [some (.ref a0), some (.int x1), o2, o3] st (qk_set w c4 (.inl (.int, n6, .inl (upd f7 x1.toNatClampNeg 0)))) nc ns Q) : Ev d m_Mo_close 92 [some (.ref a0), some (.int x1), o2, o3] st w nc ns Q := by
  refine ev_aload_n d_Mo_close_92 rfl rfl ?_
  refine ev_getf d_Mo_close_93 fl_Mo_20 hw1.1 hw1.2 hf3 ?_
  refine ev_iload_n d_Mo_close_96 rfl ?_
  refine ev_iconst 0 d_Mo_close_97 (by decide) ?_
  exact ev_iast d_Mo_close_98 h16 ha5 hi k
theorem t_Mo_close_99 {d : Nat} {st : List Value} {a0 : Nat} {x1 : Int32} {o2 : Option Value} {o3 : Option Value} {fsb : List Value} {w : qk_W} {nc ns : Nat} {Q : Option Value ⊕ Nat → qk_W → Nat → Nat → Prop}  (hb : wo w a0 11 fsb) (h8 : (st.map fun v => Value.category v).sum ≤ 8) (k : Ev d m_Mo_ringFirst 0 [some (.ref a0), some (.int x1), none, none, none] [] w nc ns (fun r w1 nc1 ns1 => match r with | .inl v => Ev (d + 1) m_Mo_close 104 [some (.ref a0), some (.int x1), o2, o3] (v.toList ++ st) w1 nc1 ns1 Q | .inr x => Q (.inr x) w1 nc1 ns1)) : Ev (d + 1) m_Mo_close 99 [some (.ref a0), some (.int x1), o2, o3] st w nc ns Q := by
  refine ev_aload_n d_Mo_close_99 rfl rfl ?_
  refine ev_iload_n d_Mo_close_100 rfl ?_
  exact ev_call (M' := m_Mo_ringFirst) (As := [.ref a0, .int x1]) (st := st) d_Mo_close_101 i_Mo_ringFirst (fun h => absurd h (by decide +kernel)) cw_Mo_91 rfl rfl ⟨hb.1, 11, _, _, hb.2, rfl, rfl⟩ rfl (Nat.le_of_ble_eq_true rfl) h8 k
theorem t_Mo_close_104 {d : Nat} {st : List Value} {o0 : Option Value} {o1 : Option Value} {o2 : Option Value} {o3 : Option Value} {y0 : Int32} {w : qk_W} {nc ns : Nat} {Q : Option Value ⊕ Nat → qk_W → Nat → Nat → Prop}  (hc1 : qk_c2 [o0, o1, o2, o3] 2 = true) (k : Ev d m_Mo_close 107 [o0, o1, some (.int y0), some (.int 0)] st w nc ns Q) : Ev d m_Mo_close 104 [o0, o1, o2, o3] (.int y0 :: st) w nc ns Q := by
  refine ev_istore_n d_Mo_close_104 (by decide) hc1 ?_
  refine ev_iconst 0 d_Mo_close_105 (by decide) ?_
  refine ev_istore_n d_Mo_close_106 (by decide) rfl ?_
  exact k
theorem t_Mo_close_107 {d : Nat} {st : List Value} {o0 : Option Value} {o1 : Option Value} {x2 : Int32} {x3 : Int32} {w : qk_W} {nc ns : Nat} {Q : Option Value ⊕ Nat → qk_W → Nat → Nat → Prop}   (kt : x2 ≤ x3 → Ev d m_Mo_close 148 [o0, o1, some (.int x2), some (.int x3)] st w nc ns Q) (kf : ¬ (x2 ≤ x3) → Ev d m_Mo_close 112 [o0, o1, some (.int x2), some (.int x3)] st w nc ns Q) : Ev d m_Mo_close 107 [o0, o1, some (.int x2), some (.int x3)] st w nc ns Q := by
  refine ev_iload_n d_Mo_close_107 rfl ?_
  refine ev_iload_n d_Mo_close_108 rfl ?_
  exact ev_icmp_ge 148 d_Mo_close_109 (by decide) kt kf
theorem t_Mo_close_112 {d : Nat} {st : List Value} {a0 : Nat} {o1 : Option Value} {o2 : Option Value} {x3 : Int32} {fs2 : List Value} {c4 : Nat} {n9 : Nat} {f10 : Nat → Int32} {w : qk_W} {nc ns : Nat} {Q : Option Value ⊕ Nat → qk_W → Nat → Nat → Prop}  (hw1 : wo w a0 11 fs2) (hf3 : fs2[10]? = some (.ref c4)) (ha8 : wz w c4 n9 f10) (hi11 : vp_in x3 n9) (kt : (f10 x3.toNatClampNeg) = 0 → Ev d m_Mo_close 140 [some (.ref a0), o1, o2, some (.int x3)] (.int x3 :: .ref c4 :: st) w nc ns Q) (kf : ¬ ((f10 x3.toNatClampNeg) = 0) → Ev d m_Mo_close 126 [some (.ref a0), o1, o2, some (.int x3)] (.int x3 :: .ref c4 :: st) w nc ns Q) : Ev d m_Mo_close 112 [some (.ref a0), o1, o2, some (.int x3)] st w nc ns Q := by
  refine ev_aload_n d_Mo_close_112 rfl rfl ?_
  refine ev_getf d_Mo_close_113 fl_Mo_39 hw1.1 hw1.2 hf3 ?_
  refine ev_iload_n d_Mo_close_116 rfl ?_
  refine ev_aload_n d_Mo_close_117 rfl rfl ?_
  refine ev_getf d_Mo_close_118 fl_Mo_39 hw1.1 hw1.2 hf3 ?_
  refine ev_iload_n d_Mo_close_121 rfl ?_
  refine ev_zald d_Mo_close_122 ha8.1 ha8.2 hi11 ?_
  exact ev_if_eq 140 d_Mo_close_123 (by decide) kt kf
theorem t_Mo_close_126 {d : Nat} {st : List Value} {a0 : Nat} {x1 : Int32} {o2 : Option Value} {x3 : Int32} {fs2 : List Value} {c4 : Nat} {n6 : Nat} {f7 : Nat → Int32} {w : qk_W} {nc ns : Nat} {Q : Option Value ⊕ Nat → qk_W → Nat → Nat → Prop}  (hw1 : wo w a0 11 fs2) (hf3 : fs2[6]? = some (.ref c4)) (ha5 : wi w c4 n6 f7) (hi8 : vp_in x3 n6) (kt : (f7 x3.toNatClampNeg) = x1 → Ev d m_Mo_close 140 [some (.ref a0), some (.int x1), o2, some (.int x3)] st w nc ns Q) (kf : ¬ ((f7 x3.toNatClampNeg) = x1) → Ev d m_Mo_close 136 [some (.ref a0), some (.int x1), o2, some (.int x3)] st w nc ns Q) : Ev d m_Mo_close 126 [some (.ref a0), some (.int x1), o2, some (.int x3)] st w nc ns Q := by
  refine ev_aload_n d_Mo_close_126 rfl rfl ?_
  refine ev_getf d_Mo_close_127 fl_Mo_27 hw1.1 hw1.2 hf3 ?_
  refine ev_iload_n d_Mo_close_130 rfl ?_
  refine ev_iald d_Mo_close_131 ha5 hi8 ?_
  refine ev_iload_n d_Mo_close_132 rfl ?_
  exact ev_icmp_eq 140 d_Mo_close_133 (by decide) kt kf
theorem t_Mo_close_136 {d : Nat} {st : List Value} {o0 : Option Value} {o1 : Option Value} {o2 : Option Value} {o3 : Option Value} {y0 : Int32} {b1 : Nat} {n2 : Nat} {f3 : Nat → Int32} {w : qk_W} {nc ns : Nat} {Q : Option Value ⊕ Nat → qk_W → Nat → Nat → Prop}  (ha1 : wz w b1 n2 f3) (hi : vp_in y0 n2) (k : Ev d m_Mo_close 142 [o0, o1, o2, o3] st (qk_set w b1 (.inl (.boolean, n2, .inl (upd f3 y0.toNatClampNeg 1)))) nc ns Q) : Ev d m_Mo_close 136 [o0, o1, o2, o3] (.int y0 :: .ref b1 :: st) w nc ns Q := by
  refine ev_iconst 1 d_Mo_close_136 (by decide) ?_
  refine ev_goto 141 d_Mo_close_137 (by decide) ?_
  exact ev_zast d_Mo_close_141 ha1.1 ha1.2 hi rfl k
theorem t_Mo_close_140 {d : Nat} {st : List Value} {o0 : Option Value} {o1 : Option Value} {o2 : Option Value} {o3 : Option Value} {y0 : Int32} {b1 : Nat} {n2 : Nat} {f3 : Nat → Int32} {w : qk_W} {nc ns : Nat} {Q : Option Value ⊕ Nat → qk_W → Nat → Nat → Prop}  (ha1 : wz w b1 n2 f3) (hi : vp_in y0 n2) (k : Ev d m_Mo_close 142 [o0, o1, o2, o3] st (qk_set w b1 (.inl (.boolean, n2, .inl (upd f3 y0.toNatClampNeg 0)))) nc ns Q) : Ev d m_Mo_close 140 [o0, o1, o2, o3] (.int y0 :: .ref b1 :: st) w nc ns Q := by
  refine ev_iconst 0 d_Mo_close_140 (by decide) ?_
  exact ev_zast d_Mo_close_141 ha1.1 ha1.2 hi rfl k
theorem t_Mo_close_142 {d : Nat} {st : List Value} {o0 : Option Value} {o1 : Option Value} {o2 : Option Value} {x3 : Int32} {w : qk_W} {nc ns : Nat} {Q : Option Value ⊕ Nat → qk_W → Nat → Nat → Prop}  (hc1 : qk_c2 [o0, o1, o2, some (.int x3)] 3 = true) (k : Ev d m_Mo_close 107 [o0, o1, o2, some (.int (x3 + 1))] st w nc ns Q) : Ev d m_Mo_close 142 [o0, o1, o2, some (.int x3)] st w nc ns Q := by
  refine ev_iinc 1 d_Mo_close_142 (by decide) rfl (by decide) hc1 ?_
  refine ev_goto 107 d_Mo_close_145 (by decide) ?_
  exact k
theorem t_Mo_close_148 {d : Nat} {o0 : Option Value} {o1 : Option Value} {o2 : Option Value} {o3 : Option Value} {w : qk_W} {nc ns : Nat} {Q : Option Value ⊕ Nat → qk_W → Nat → Nat → Prop}   (hq : Q (.inl none) w nc ns) : Ev d m_Mo_close 148 [o0, o1, o2, o3] [] w nc ns Q := by
  exact ev_vret d_Mo_close_148 rfl hq
/-! Mo_ringFirst -/
theorem d_Mo_ringFirst_0 : decode m_Mo_ringFirst.2.1 0 = .ok (.bipush 32, 2) := by decide +kernel
theorem d_Mo_ringFirst_2 : decode m_Mo_ringFirst.2.1 2 = .ok (.istore_n 2, 1) := by decide +kernel
theorem d_Mo_ringFirst_3 : decode m_Mo_ringFirst.2.1 3 = .ok (.aload_n 0, 1) := by decide +kernel
theorem d_Mo_ringFirst_4 : decode m_Mo_ringFirst.2.1 4 = .ok (.getfield 88, 3) := by decide +kernel
theorem d_Mo_ringFirst_7 : decode m_Mo_ringFirst.2.1 7 = .ok (.istore_n 3, 1) := by decide +kernel
theorem d_Mo_ringFirst_8 : decode m_Mo_ringFirst.2.1 8 = .ok (.aload_n 0, 1) := by decide +kernel
theorem d_Mo_ringFirst_9 : decode m_Mo_ringFirst.2.1 9 = .ok (.getfield 88, 3) := by decide +kernel
theorem d_Mo_ringFirst_12 : decode m_Mo_ringFirst.2.1 12 = .ok (.iconst 1, 1) := by decide +kernel
theorem d_Mo_ringFirst_13 : decode m_Mo_ringFirst.2.1 13 = .ok (.isub, 1) := by decide +kernel
theorem d_Mo_ringFirst_14 : decode m_Mo_ringFirst.2.1 14 = .ok (.istore 4, 2) := by decide +kernel
theorem d_Mo_ringFirst_16 : decode m_Mo_ringFirst.2.1 16 = .ok (.iload 4, 2) := by decide +kernel
theorem d_Mo_ringFirst_18 : decode m_Mo_ringFirst.2.1 18 = .ok (.ifCond .lt 30, 3) := by decide +kernel
theorem d_Mo_ringFirst_21 : decode m_Mo_ringFirst.2.1 21 = .ok (.iload_n 2, 1) := by decide +kernel
theorem d_Mo_ringFirst_22 : decode m_Mo_ringFirst.2.1 22 = .ok (.ifCond .le 26, 3) := by decide +kernel
theorem d_Mo_ringFirst_25 : decode m_Mo_ringFirst.2.1 25 = .ok (.aload_n 0, 1) := by decide +kernel
theorem d_Mo_ringFirst_26 : decode m_Mo_ringFirst.2.1 26 = .ok (.getfield 27, 3) := by decide +kernel
theorem d_Mo_ringFirst_29 : decode m_Mo_ringFirst.2.1 29 = .ok (.iload 4, 2) := by decide +kernel
theorem d_Mo_ringFirst_31 : decode m_Mo_ringFirst.2.1 31 = .ok (.iaload, 1) := by decide +kernel
theorem d_Mo_ringFirst_32 : decode m_Mo_ringFirst.2.1 32 = .ok (.iload_n 1, 1) := by decide +kernel
theorem d_Mo_ringFirst_33 : decode m_Mo_ringFirst.2.1 33 = .ok (.if_icmp .ne 9, 3) := by decide +kernel
theorem d_Mo_ringFirst_36 : decode m_Mo_ringFirst.2.1 36 = .ok (.iload 4, 2) := by decide +kernel
theorem d_Mo_ringFirst_38 : decode m_Mo_ringFirst.2.1 38 = .ok (.istore_n 3, 1) := by decide +kernel
theorem d_Mo_ringFirst_39 : decode m_Mo_ringFirst.2.1 39 = .ok (.iinc 2 (-1), 3) := by decide +kernel
theorem d_Mo_ringFirst_42 : decode m_Mo_ringFirst.2.1 42 = .ok (.iinc 4 (-1), 3) := by decide +kernel
theorem d_Mo_ringFirst_45 : decode m_Mo_ringFirst.2.1 45 = .ok (.goto (-29), 3) := by decide +kernel
theorem d_Mo_ringFirst_48 : decode m_Mo_ringFirst.2.1 48 = .ok (.iload_n 3, 1) := by decide +kernel
theorem d_Mo_ringFirst_49 : decode m_Mo_ringFirst.2.1 49 = .ok (.ireturn, 1) := by decide +kernel
theorem t_Mo_ringFirst_0 {d : Nat} {st : List Value} {a0 : Nat} {o1 : Option Value} {o2 : Option Value} {o3 : Option Value} {o4 : Option Value} {fs3 : List Value} {n5 : Int32} {w : qk_W} {nc ns : Nat} {Q : Option Value ⊕ Nat → qk_W → Nat → Nat → Prop}  (hc1 : qk_c2 [some (.ref a0), o1, o2, o3, o4] 2 = true) (hw2 : wo w a0 11 fs3) (hf4 : fs3[11]? = some (.int n5)) (k : Ev d m_Mo_ringFirst 16 [some (.ref a0), o1, some (.int 32), some (.int n5), some (.int (n5 - 1))] st w nc ns Q) : Ev d m_Mo_ringFirst 0 [some (.ref a0), o1, o2, o3, o4] st w nc ns Q := by
  refine ev_bipush 32 d_Mo_ringFirst_0 (by decide) ?_
  refine ev_istore_n d_Mo_ringFirst_2 (by decide) hc1 ?_
  refine ev_aload_n d_Mo_ringFirst_3 rfl rfl ?_
  refine ev_getf d_Mo_ringFirst_4 fl_Mo_88 hw2.1 hw2.2 hf4 ?_
  refine ev_istore_n d_Mo_ringFirst_7 (by decide) rfl ?_
  refine ev_aload_n d_Mo_ringFirst_8 rfl rfl ?_
  refine ev_getf d_Mo_ringFirst_9 fl_Mo_88 hw2.1 hw2.2 hf4 ?_
  refine ev_iconst 1 d_Mo_ringFirst_12 (by decide) ?_
  refine ev_isub d_Mo_ringFirst_13 ?_
  refine ev_istore d_Mo_ringFirst_14 (by decide) rfl ?_
  exact k
theorem t_Mo_ringFirst_16 {d : Nat} {st : List Value} {o0 : Option Value} {o1 : Option Value} {o2 : Option Value} {o3 : Option Value} {x4 : Int32} {w : qk_W} {nc ns : Nat} {Q : Option Value ⊕ Nat → qk_W → Nat → Nat → Prop}   (kt : x4 < 0 → Ev d m_Mo_ringFirst 48 [o0, o1, o2, o3, some (.int x4)] st w nc ns Q) (kf : ¬ (x4 < 0) → Ev d m_Mo_ringFirst 21 [o0, o1, o2, o3, some (.int x4)] st w nc ns Q) : Ev d m_Mo_ringFirst 16 [o0, o1, o2, o3, some (.int x4)] st w nc ns Q := by
  refine ev_iload d_Mo_ringFirst_16 rfl ?_
  exact ev_if_lt 48 d_Mo_ringFirst_18 (by decide) kt kf
theorem t_Mo_ringFirst_21 {d : Nat} {st : List Value} {o0 : Option Value} {o1 : Option Value} {x2 : Int32} {o3 : Option Value} {o4 : Option Value} {w : qk_W} {nc ns : Nat} {Q : Option Value ⊕ Nat → qk_W → Nat → Nat → Prop}   (kt : x2 ≤ 0 → Ev d m_Mo_ringFirst 48 [o0, o1, some (.int x2), o3, o4] st w nc ns Q) (kf : ¬ (x2 ≤ 0) → Ev d m_Mo_ringFirst 25 [o0, o1, some (.int x2), o3, o4] st w nc ns Q) : Ev d m_Mo_ringFirst 21 [o0, o1, some (.int x2), o3, o4] st w nc ns Q := by
  refine ev_iload_n d_Mo_ringFirst_21 rfl ?_
  exact ev_if_le 48 d_Mo_ringFirst_22 (by decide) kt kf
theorem t_Mo_ringFirst_25 {d : Nat} {st : List Value} {a0 : Nat} {x1 : Int32} {o2 : Option Value} {o3 : Option Value} {x4 : Int32} {fs2 : List Value} {c4 : Nat} {n6 : Nat} {f7 : Nat → Int32} {w : qk_W} {nc ns : Nat} {Q : Option Value ⊕ Nat → qk_W → Nat → Nat → Prop}  (hw1 : wo w a0 11 fs2) (hf3 : fs2[6]? = some (.ref c4)) (ha5 : wi w c4 n6 f7) (hi8 : vp_in x4 n6) (kt : ¬ (f7 x4.toNatClampNeg) = x1 → Ev d m_Mo_ringFirst 42 [some (.ref a0), some (.int x1), o2, o3, some (.int x4)] st w nc ns Q) (kf : (f7 x4.toNatClampNeg) = x1 → Ev d m_Mo_ringFirst 36 [some (.ref a0), some (.int x1), o2, o3, some (.int x4)] st w nc ns Q) : Ev d m_Mo_ringFirst 25 [some (.ref a0), some (.int x1), o2, o3, some (.int x4)] st w nc ns Q := by
  refine ev_aload_n d_Mo_ringFirst_25 rfl rfl ?_
  refine ev_getf d_Mo_ringFirst_26 fl_Mo_27 hw1.1 hw1.2 hf3 ?_
  refine ev_iload d_Mo_ringFirst_29 rfl ?_
  refine ev_iald d_Mo_ringFirst_31 ha5 hi8 ?_
  refine ev_iload_n d_Mo_ringFirst_32 rfl ?_
  exact ev_icmp_ne 42 d_Mo_ringFirst_33 (by decide) kt kf
theorem t_Mo_ringFirst_36 {d : Nat} {st : List Value} {o0 : Option Value} {o1 : Option Value} {x2 : Int32} {o3 : Option Value} {x4 : Int32} {w : qk_W} {nc ns : Nat} {Q : Option Value ⊕ Nat → qk_W → Nat → Nat → Prop}  (hc1 : qk_c2 [o0, o1, some (.int x2), o3, some (.int x4)] 3 = true) (hc2 : qk_c2 [o0, o1, some (.int x2), some (.int x4), some (.int x4)] 2 = true) (k : Ev d m_Mo_ringFirst 16 [o0, o1, some (.int (x2 + (-1))), some (.int x4), some (.int (x4 + (-1)))] st w nc ns Q) : Ev d m_Mo_ringFirst 36 [o0, o1, some (.int x2), o3, some (.int x4)] st w nc ns Q := by
  refine ev_iload d_Mo_ringFirst_36 rfl ?_
  refine ev_istore_n d_Mo_ringFirst_38 (by decide) hc1 ?_
  refine ev_iinc (-1) d_Mo_ringFirst_39 (by decide) rfl (by decide) hc2 ?_
  refine ev_iinc (-1) d_Mo_ringFirst_42 (by decide) rfl (by decide) rfl ?_
  refine ev_goto 16 d_Mo_ringFirst_45 (by decide) ?_
  exact k
theorem t_Mo_ringFirst_42 {d : Nat} {st : List Value} {o0 : Option Value} {o1 : Option Value} {o2 : Option Value} {o3 : Option Value} {x4 : Int32} {w : qk_W} {nc ns : Nat} {Q : Option Value ⊕ Nat → qk_W → Nat → Nat → Prop}  (hc1 : qk_c2 [o0, o1, o2, o3, some (.int x4)] 4 = true) (k : Ev d m_Mo_ringFirst 16 [o0, o1, o2, o3, some (.int (x4 + (-1)))] st w nc ns Q) : Ev d m_Mo_ringFirst 42 [o0, o1, o2, o3, some (.int x4)] st w nc ns Q := by
  refine ev_iinc (-1) d_Mo_ringFirst_42 (by decide) rfl (by decide) hc1 ?_
  refine ev_goto 16 d_Mo_ringFirst_45 (by decide) ?_
  exact k
theorem t_Mo_ringFirst_48 {d : Nat} {o0 : Option Value} {o1 : Option Value} {o2 : Option Value} {x3 : Int32} {o4 : Option Value} {w : qk_W} {nc ns : Nat} {Q : Option Value ⊕ Nat → qk_W → Nat → Nat → Prop}   (hq : Q (.inl (some (.int x3))) w nc ns) : Ev d m_Mo_ringFirst 48 [o0, o1, o2, some (.int x3), o4] [] w nc ns Q := by
  refine ev_iload_n d_Mo_ringFirst_48 rfl ?_
  exact ev_iret d_Mo_ringFirst_49 rfl rfl hq
/-! Mo_samples -/
theorem d_Mo_samples_0 : decode m_Mo_samples.2.1 0 = .ok (.aload_n 0, 1) := by decide +kernel
theorem d_Mo_samples_1 : decode m_Mo_samples.2.1 1 = .ok (.iload_n 1, 1) := by decide +kernel
theorem d_Mo_samples_2 : decode m_Mo_samples.2.1 2 = .ok (.invokestatic 101, 3) := by decide +kernel
theorem d_Mo_samples_5 : decode m_Mo_samples.2.1 5 = .ok (.ifCond .ne 7, 3) := by decide +kernel
theorem d_Mo_samples_8 : decode m_Mo_samples.2.1 8 = .ok (.iconst 1, 1) := by decide +kernel
theorem d_Mo_samples_9 : decode m_Mo_samples.2.1 9 = .ok (.goto 37, 3) := by decide +kernel
theorem d_Mo_samples_12 : decode m_Mo_samples.2.1 12 = .ok (.iload_n 2, 1) := by decide +kernel
theorem d_Mo_samples_13 : decode m_Mo_samples.2.1 13 = .ok (.iconst 1, 1) := by decide +kernel
theorem d_Mo_samples_14 : decode m_Mo_samples.2.1 14 = .ok (.if_icmp .lt 10, 3) := by decide +kernel
theorem d_Mo_samples_17 : decode m_Mo_samples.2.1 17 = .ok (.iload_n 2, 1) := by decide +kernel
theorem d_Mo_samples_18 : decode m_Mo_samples.2.1 18 = .ok (.sipush 2000, 3) := by decide +kernel
theorem d_Mo_samples_21 : decode m_Mo_samples.2.1 21 = .ok (.if_icmp .le 7, 3) := by decide +kernel
theorem d_Mo_samples_24 : decode m_Mo_samples.2.1 24 = .ok (.iconst 2, 1) := by decide +kernel
theorem d_Mo_samples_25 : decode m_Mo_samples.2.1 25 = .ok (.goto 21, 3) := by decide +kernel
theorem d_Mo_samples_28 : decode m_Mo_samples.2.1 28 = .ok (.aload_n 0, 1) := by decide +kernel
theorem d_Mo_samples_29 : decode m_Mo_samples.2.1 29 = .ok (.getfield 14, 3) := by decide +kernel
theorem d_Mo_samples_32 : decode m_Mo_samples.2.1 32 = .ok (.iload_n 1, 1) := by decide +kernel
theorem d_Mo_samples_33 : decode m_Mo_samples.2.1 33 = .ok (.iaload, 1) := by decide +kernel
theorem d_Mo_samples_34 : decode m_Mo_samples.2.1 34 = .ok (.iload_n 2, 1) := by decide +kernel
theorem d_Mo_samples_35 : decode m_Mo_samples.2.1 35 = .ok (.iadd, 1) := by decide +kernel
theorem d_Mo_samples_36 : decode m_Mo_samples.2.1 36 = .ok (.ldc 46, 2) := by decide +kernel
theorem d_Mo_samples_38 : decode m_Mo_samples.2.1 38 = .ok (.if_icmp .le 7, 3) := by decide +kernel
theorem d_Mo_samples_41 : decode m_Mo_samples.2.1 41 = .ok (.iconst 3, 1) := by decide +kernel
theorem d_Mo_samples_42 : decode m_Mo_samples.2.1 42 = .ok (.goto 4, 3) := by decide +kernel
theorem d_Mo_samples_45 : decode m_Mo_samples.2.1 45 = .ok (.iconst 0, 1) := by decide +kernel
theorem d_Mo_samples_46 : decode m_Mo_samples.2.1 46 = .ok (.putfield 69, 3) := by decide +kernel
theorem d_Mo_samples_49 : decode m_Mo_samples.2.1 49 = .ok (.aload_n 0, 1) := by decide +kernel
theorem d_Mo_samples_50 : decode m_Mo_samples.2.1 50 = .ok (.getfield 69, 3) := by decide +kernel
theorem d_Mo_samples_53 : decode m_Mo_samples.2.1 53 = .ok (.ifCond .le 5, 3) := by decide +kernel
theorem d_Mo_samples_56 : decode m_Mo_samples.2.1 56 = .ok (.iconst 0, 1) := by decide +kernel
theorem d_Mo_samples_57 : decode m_Mo_samples.2.1 57 = .ok (.ireturn, 1) := by decide +kernel
theorem d_Mo_samples_58 : decode m_Mo_samples.2.1 58 = .ok (.aload_n 0, 1) := by decide +kernel
theorem d_Mo_samples_59 : decode m_Mo_samples.2.1 59 = .ok (.getfield 14, 3) := by decide +kernel
theorem d_Mo_samples_62 : decode m_Mo_samples.2.1 62 = .ok (.iload_n 1, 1) := by decide +kernel
theorem d_Mo_samples_63 : decode m_Mo_samples.2.1 63 = .ok (.iaload, 1) := by decide +kernel
theorem d_Mo_samples_64 : decode m_Mo_samples.2.1 64 = .ok (.istore 6, 2) := by decide +kernel
theorem d_Mo_samples_66 : decode m_Mo_samples.2.1 66 = .ok (.iload_n 3, 1) := by decide +kernel
theorem d_Mo_samples_67 : decode m_Mo_samples.2.1 67 = .ok (.istore 7, 2) := by decide +kernel
theorem d_Mo_samples_69 : decode m_Mo_samples.2.1 69 = .ok (.iload 4, 2) := by decide +kernel
theorem d_Mo_samples_71 : decode m_Mo_samples.2.1 71 = .ok (.istore 8, 2) := by decide +kernel
theorem d_Mo_samples_73 : decode m_Mo_samples.2.1 73 = .ok (.iconst 0, 1) := by decide +kernel
theorem d_Mo_samples_74 : decode m_Mo_samples.2.1 74 = .ok (.istore 9, 2) := by decide +kernel
theorem d_Mo_samples_76 : decode m_Mo_samples.2.1 76 = .ok (.iload 9, 2) := by decide +kernel
theorem d_Mo_samples_78 : decode m_Mo_samples.2.1 78 = .ok (.iload_n 2, 1) := by decide +kernel
theorem d_Mo_samples_79 : decode m_Mo_samples.2.1 79 = .ok (.if_icmp .ge 30, 3) := by decide +kernel
theorem d_Mo_samples_82 : decode m_Mo_samples.2.1 82 = .ok (.aload_n 0, 1) := by decide +kernel
theorem d_Mo_samples_83 : decode m_Mo_samples.2.1 83 = .ok (.iload_n 1, 1) := by decide +kernel
theorem d_Mo_samples_84 : decode m_Mo_samples.2.1 84 = .ok (.iload 7, 2) := by decide +kernel
theorem d_Mo_samples_86 : decode m_Mo_samples.2.1 86 = .ok (.invokevirtual 105, 3) := by decide +kernel
theorem d_Mo_samples_89 : decode m_Mo_samples.2.1 89 = .ok (.iload 7, 2) := by decide +kernel
theorem d_Mo_samples_91 : decode m_Mo_samples.2.1 91 = .ok (.iload 8, 2) := by decide +kernel
theorem d_Mo_samples_93 : decode m_Mo_samples.2.1 93 = .ok (.iadd, 1) := by decide +kernel
theorem d_Mo_samples_94 : decode m_Mo_samples.2.1 94 = .ok (.istore 7, 2) := by decide +kernel
theorem d_Mo_samples_96 : decode m_Mo_samples.2.1 96 = .ok (.iload 8, 2) := by decide +kernel
theorem d_Mo_samples_98 : decode m_Mo_samples.2.1 98 = .ok (.iload 5, 2) := by decide +kernel
theorem d_Mo_samples_100 : decode m_Mo_samples.2.1 100 = .ok (.iadd, 1) := by decide +kernel
theorem d_Mo_samples_101 : decode m_Mo_samples.2.1 101 = .ok (.istore 8, 2) := by decide +kernel
theorem d_Mo_samples_103 : decode m_Mo_samples.2.1 103 = .ok (.iinc 9 1, 3) := by decide +kernel
theorem d_Mo_samples_106 : decode m_Mo_samples.2.1 106 = .ok (.goto (-30), 3) := by decide +kernel
theorem d_Mo_samples_109 : decode m_Mo_samples.2.1 109 = .ok (.iload 6, 2) := by decide +kernel
theorem d_Mo_samples_111 : decode m_Mo_samples.2.1 111 = .ok (.ireturn, 1) := by decide +kernel
theorem t_Mo_samples_0 {d : Nat} {st : List Value} {v0 : Value} {x1 : Int32} {o2 : Option Value} {o3 : Option Value} {o4 : Option Value} {o5 : Option Value} {o6 : Option Value} {o7 : Option Value} {o8 : Option Value} {o9 : Option Value} {w : qk_W} {nc ns : Nat} {Q : Option Value ⊕ Nat → qk_W → Nat → Nat → Prop} (hv0 : qk_isr v0 = true) (h8 : ((v0 :: st).map fun v => Value.category v).sum ≤ 8) (k : Ev d m_Mo_isChannel 0 [some (.int x1)] [] w nc ns (fun r w1 nc1 ns1 => match r with | .inl v => Ev (d + 1) m_Mo_samples 5 [some v0, some (.int x1), o2, o3, o4, o5, o6, o7, o8, o9] (v.toList ++ (v0 :: st)) w1 nc1 ns1 Q | .inr x => Q (.inr x) w1 nc1 ns1)) : Ev (d + 1) m_Mo_samples 0 [some v0, some (.int x1), o2, o3, o4, o5, o6, o7, o8, o9] st w nc ns Q := by
  refine ev_aload_n d_Mo_samples_0 rfl hv0 ?_
  refine ev_iload_n d_Mo_samples_1 rfl ?_
  exact ev_call (M' := m_Mo_isChannel) (As := [.int x1]) (st := (v0 :: st)) d_Mo_samples_2 i_Mo_isChannel (fun h => absurd h (by decide +kernel)) cw_Mo_101 rfl rfl trivial rfl (Nat.le_of_ble_eq_true rfl) h8 k
theorem t_Mo_samples_5 {d : Nat} {st : List Value} {o0 : Option Value} {o1 : Option Value} {o2 : Option Value} {o3 : Option Value} {o4 : Option Value} {o5 : Option Value} {o6 : Option Value} {o7 : Option Value} {o8 : Option Value} {o9 : Option Value} {y0 : Int32} {w : qk_W} {nc ns : Nat} {Q : Option Value ⊕ Nat → qk_W → Nat → Nat → Prop}   (kt : ¬ y0 = 0 → Ev d m_Mo_samples 12 [o0, o1, o2, o3, o4, o5, o6, o7, o8, o9] st w nc ns Q) (kf : y0 = 0 → Ev d m_Mo_samples 8 [o0, o1, o2, o3, o4, o5, o6, o7, o8, o9] st w nc ns Q) : Ev d m_Mo_samples 5 [o0, o1, o2, o3, o4, o5, o6, o7, o8, o9] (.int y0 :: st) w nc ns Q := by
  exact ev_if_ne 12 d_Mo_samples_5 (by decide) kt kf
theorem t_Mo_samples_8 {d : Nat} {st : List Value} {o0 : Option Value} {o1 : Option Value} {o2 : Option Value} {o3 : Option Value} {o4 : Option Value} {o5 : Option Value} {o6 : Option Value} {o7 : Option Value} {o8 : Option Value} {o9 : Option Value} {b0 : Nat} {fs2 : List Value} {w : qk_W} {nc ns : Nat} {Q : Option Value ⊕ Nat → qk_W → Nat → Nat → Prop}  (hw1 : wo w b0 11 fs2) (hk : 0 < fs2.length) (k : Ev d m_Mo_samples 49 [o0, o1, o2, o3, o4, o5, o6, o7, o8, o9] st (qk_set w b0 (.inr (11, fs2.set 0 (.int 1)))) nc ns Q) : Ev d m_Mo_samples 8 [o0, o1, o2, o3, o4, o5, o6, o7, o8, o9] (.ref b0 :: st) w nc ns Q := by
  refine ev_iconst 1 d_Mo_samples_8 (by decide) ?_
  refine ev_goto 46 d_Mo_samples_9 (by decide) ?_
  exact ev_putf d_Mo_samples_46 fl_Mo_69 rfl hw1.1 hw1.2 hk (qk_fitI _) k
theorem t_Mo_samples_12 {d : Nat} {st : List Value} {o0 : Option Value} {o1 : Option Value} {x2 : Int32} {o3 : Option Value} {o4 : Option Value} {o5 : Option Value} {o6 : Option Value} {o7 : Option Value} {o8 : Option Value} {o9 : Option Value} {w : qk_W} {nc ns : Nat} {Q : Option Value ⊕ Nat → qk_W → Nat → Nat → Prop}   (kt : x2 < (1 : Int32) → Ev d m_Mo_samples 24 [o0, o1, some (.int x2), o3, o4, o5, o6, o7, o8, o9] st w nc ns Q) (kf : ¬ (x2 < (1 : Int32)) → Ev d m_Mo_samples 17 [o0, o1, some (.int x2), o3, o4, o5, o6, o7, o8, o9] st w nc ns Q) : Ev d m_Mo_samples 12 [o0, o1, some (.int x2), o3, o4, o5, o6, o7, o8, o9] st w nc ns Q := by
  refine ev_iload_n d_Mo_samples_12 rfl ?_
  refine ev_iconst 1 d_Mo_samples_13 (by decide) ?_
  exact ev_icmp_lt 24 d_Mo_samples_14 (by decide) kt kf
theorem t_Mo_samples_17 {d : Nat} {st : List Value} {o0 : Option Value} {o1 : Option Value} {x2 : Int32} {o3 : Option Value} {o4 : Option Value} {o5 : Option Value} {o6 : Option Value} {o7 : Option Value} {o8 : Option Value} {o9 : Option Value} {w : qk_W} {nc ns : Nat} {Q : Option Value ⊕ Nat → qk_W → Nat → Nat → Prop}   (kt : x2 ≤ (2000 : Int32) → Ev d m_Mo_samples 28 [o0, o1, some (.int x2), o3, o4, o5, o6, o7, o8, o9] st w nc ns Q) (kf : ¬ (x2 ≤ (2000 : Int32)) → Ev d m_Mo_samples 24 [o0, o1, some (.int x2), o3, o4, o5, o6, o7, o8, o9] st w nc ns Q) : Ev d m_Mo_samples 17 [o0, o1, some (.int x2), o3, o4, o5, o6, o7, o8, o9] st w nc ns Q := by
  refine ev_iload_n d_Mo_samples_17 rfl ?_
  refine ev_sipush 2000 d_Mo_samples_18 (by decide) ?_
  exact ev_icmp_le 28 d_Mo_samples_21 (by decide) kt kf
theorem t_Mo_samples_24 {d : Nat} {st : List Value} {o0 : Option Value} {o1 : Option Value} {o2 : Option Value} {o3 : Option Value} {o4 : Option Value} {o5 : Option Value} {o6 : Option Value} {o7 : Option Value} {o8 : Option Value} {o9 : Option Value} {b0 : Nat} {fs2 : List Value} {w : qk_W} {nc ns : Nat} {Q : Option Value ⊕ Nat → qk_W → Nat → Nat → Prop}  (hw1 : wo w b0 11 fs2) (hk : 0 < fs2.length) (k : Ev d m_Mo_samples 49 [o0, o1, o2, o3, o4, o5, o6, o7, o8, o9] st (qk_set w b0 (.inr (11, fs2.set 0 (.int 2)))) nc ns Q) : Ev d m_Mo_samples 24 [o0, o1, o2, o3, o4, o5, o6, o7, o8, o9] (.ref b0 :: st) w nc ns Q := by
  refine ev_iconst 2 d_Mo_samples_24 (by decide) ?_
  refine ev_goto 46 d_Mo_samples_25 (by decide) ?_
  exact ev_putf d_Mo_samples_46 fl_Mo_69 rfl hw1.1 hw1.2 hk (qk_fitI _) k
theorem t_Mo_samples_28 {d : Nat} {st : List Value} {a0 : Nat} {x1 : Int32} {x2 : Int32} {o3 : Option Value} {o4 : Option Value} {o5 : Option Value} {o6 : Option Value} {o7 : Option Value} {o8 : Option Value} {o9 : Option Value} {fs2 : List Value} {c4 : Nat} {n6 : Nat} {f7 : Nat → Int32} {w : qk_W} {nc ns : Nat} {Q : Option Value ⊕ Nat → qk_W → Nat → Nat → Prop}  (hw1 : wo w a0 11 fs2) (hf3 : fs2[2]? = some (.ref c4)) (ha5 : wi w c4 n6 f7) (hi8 : vp_in x1 n6) (kt : ((f7 x1.toNatClampNeg) + x2) ≤ (32768 : Int32) → Ev d m_Mo_samples 45 [some (.ref a0), some (.int x1), some (.int x2), o3, o4, o5, o6, o7, o8, o9] st w nc ns Q) (kf : ¬ (((f7 x1.toNatClampNeg) + x2) ≤ (32768 : Int32)) → Ev d m_Mo_samples 41 [some (.ref a0), some (.int x1), some (.int x2), o3, o4, o5, o6, o7, o8, o9] st w nc ns Q) : Ev d m_Mo_samples 28 [some (.ref a0), some (.int x1), some (.int x2), o3, o4, o5, o6, o7, o8, o9] st w nc ns Q := by
  refine ev_aload_n d_Mo_samples_28 rfl rfl ?_
  refine ev_getf d_Mo_samples_29 fl_Mo_14 hw1.1 hw1.2 hf3 ?_
  refine ev_iload_n d_Mo_samples_32 rfl ?_
  refine ev_iald d_Mo_samples_33 ha5 hi8 ?_
  refine ev_iload_n d_Mo_samples_34 rfl ?_
  refine ev_iadd d_Mo_samples_35 ?_
  refine ev_ldc 32768 d_Mo_samples_36 lc_Mo_46 ?_
  exact ev_icmp_le 45 d_Mo_samples_38 (by decide) kt kf
theorem t_Mo_samples_41 {d : Nat} {st : List Value} {o0 : Option Value} {o1 : Option Value} {o2 : Option Value} {o3 : Option Value} {o4 : Option Value} {o5 : Option Value} {o6 : Option Value} {o7 : Option Value} {o8 : Option Value} {o9 : Option Value} {b0 : Nat} {fs2 : List Value} {w : qk_W} {nc ns : Nat} {Q : Option Value ⊕ Nat → qk_W → Nat → Nat → Prop}  (hw1 : wo w b0 11 fs2) (hk : 0 < fs2.length) (k : Ev d m_Mo_samples 49 [o0, o1, o2, o3, o4, o5, o6, o7, o8, o9] st (qk_set w b0 (.inr (11, fs2.set 0 (.int 3)))) nc ns Q) : Ev d m_Mo_samples 41 [o0, o1, o2, o3, o4, o5, o6, o7, o8, o9] (.ref b0 :: st) w nc ns Q := by
  refine ev_iconst 3 d_Mo_samples_41 (by decide) ?_
  refine ev_goto 46 d_Mo_samples_42 (by decide) ?_
  exact ev_putf d_Mo_samples_46 fl_Mo_69 rfl hw1.1 hw1.2 hk (qk_fitI _) k
theorem t_Mo_samples_45 {d : Nat} {st : List Value} {o0 : Option Value} {o1 : Option Value} {o2 : Option Value} {o3 : Option Value} {o4 : Option Value} {o5 : Option Value} {o6 : Option Value} {o7 : Option Value} {o8 : Option Value} {o9 : Option Value} {b0 : Nat} {fs2 : List Value} {w : qk_W} {nc ns : Nat} {Q : Option Value ⊕ Nat → qk_W → Nat → Nat → Prop}  (hw1 : wo w b0 11 fs2) (hk : 0 < fs2.length) (k : Ev d m_Mo_samples 49 [o0, o1, o2, o3, o4, o5, o6, o7, o8, o9] st (qk_set w b0 (.inr (11, fs2.set 0 (.int 0)))) nc ns Q) : Ev d m_Mo_samples 45 [o0, o1, o2, o3, o4, o5, o6, o7, o8, o9] (.ref b0 :: st) w nc ns Q := by
  refine ev_iconst 0 d_Mo_samples_45 (by decide) ?_
  exact ev_putf d_Mo_samples_46 fl_Mo_69 rfl hw1.1 hw1.2 hk (qk_fitI _) k
theorem t_Mo_samples_49 {d : Nat} {st : List Value} {a0 : Nat} {o1 : Option Value} {o2 : Option Value} {o3 : Option Value} {o4 : Option Value} {o5 : Option Value} {o6 : Option Value} {o7 : Option Value} {o8 : Option Value} {o9 : Option Value} {fs2 : List Value} {n4 : Int32} {w : qk_W} {nc ns : Nat} {Q : Option Value ⊕ Nat → qk_W → Nat → Nat → Prop}  (hw1 : wo w a0 11 fs2) (hf3 : fs2[0]? = some (.int n4)) (kt : n4 ≤ 0 → Ev d m_Mo_samples 58 [some (.ref a0), o1, o2, o3, o4, o5, o6, o7, o8, o9] st w nc ns Q) (kf : ¬ (n4 ≤ 0) → Ev d m_Mo_samples 56 [some (.ref a0), o1, o2, o3, o4, o5, o6, o7, o8, o9] st w nc ns Q) : Ev d m_Mo_samples 49 [some (.ref a0), o1, o2, o3, o4, o5, o6, o7, o8, o9] st w nc ns Q := by
  refine ev_aload_n d_Mo_samples_49 rfl rfl ?_
  refine ev_getf d_Mo_samples_50 fl_Mo_69 hw1.1 hw1.2 hf3 ?_
  exact ev_if_le 58 d_Mo_samples_53 (by decide) kt kf
theorem t_Mo_samples_56 {d : Nat} {o0 : Option Value} {o1 : Option Value} {o2 : Option Value} {o3 : Option Value} {o4 : Option Value} {o5 : Option Value} {o6 : Option Value} {o7 : Option Value} {o8 : Option Value} {o9 : Option Value} {w : qk_W} {nc ns : Nat} {Q : Option Value ⊕ Nat → qk_W → Nat → Nat → Prop}   (hq : Q (.inl (some (.int 0))) w nc ns) : Ev d m_Mo_samples 56 [o0, o1, o2, o3, o4, o5, o6, o7, o8, o9] [] w nc ns Q := by
  refine ev_iconst 0 d_Mo_samples_56 (by decide) ?_
  exact ev_iret d_Mo_samples_57 rfl rfl hq
theorem t_Mo_samples_58 {d : Nat} {st : List Value} {a0 : Nat} {x1 : Int32} {o2 : Option Value} {x3 : Int32} {x4 : Int32} {o5 : Option Value} {o6 : Option Value} {o7 : Option Value} {o8 : Option Value} {o9 : Option Value} {fs2 : List Value} {c4 : Nat} {n6 : Nat} {f7 : Nat → Int32} {w : qk_W} {nc ns : Nat} {Q : Option Value ⊕ Nat → qk_W → Nat → Nat → Prop}  (hw1 : wo w a0 11 fs2) (hf3 : fs2[2]? = some (.ref c4)) (ha5 : wi w c4 n6 f7) (hi8 : vp_in x1 n6) (hc9 : qk_c2 [some (.ref a0), some (.int x1), o2, some (.int x3), some (.int x4), o5, o6, o7, o8, o9] 6 = true) (k : Ev d m_Mo_samples 76 [some (.ref a0), some (.int x1), o2, some (.int x3), some (.int x4), o5, some (.int (f7 x1.toNatClampNeg)), some (.int x3), some (.int x4), some (.int 0)] st w nc ns Q) : Ev d m_Mo_samples 58 [some (.ref a0), some (.int x1), o2, some (.int x3), some (.int x4), o5, o6, o7, o8, o9] st w nc ns Q := by
  refine ev_aload_n d_Mo_samples_58 rfl rfl ?_
  refine ev_getf d_Mo_samples_59 fl_Mo_14 hw1.1 hw1.2 hf3 ?_
  refine ev_iload_n d_Mo_samples_62 rfl ?_
  refine ev_iald d_Mo_samples_63 ha5 hi8 ?_
  refine ev_istore d_Mo_samples_64 (by decide) hc9 ?_
  refine ev_iload_n d_Mo_samples_66 rfl ?_
  refine ev_istore d_Mo_samples_67 (by decide) rfl ?_
  refine ev_iload d_Mo_samples_69 rfl ?_
  refine ev_istore d_Mo_samples_71 (by decide) rfl ?_
  refine ev_iconst 0 d_Mo_samples_73 (by decide) ?_
  refine ev_istore d_Mo_samples_74 (by decide) rfl ?_
  exact k
theorem t_Mo_samples_76 {d : Nat} {st : List Value} {o0 : Option Value} {o1 : Option Value} {x2 : Int32} {o3 : Option Value} {o4 : Option Value} {o5 : Option Value} {o6 : Option Value} {o7 : Option Value} {o8 : Option Value} {x9 : Int32} {w : qk_W} {nc ns : Nat} {Q : Option Value ⊕ Nat → qk_W → Nat → Nat → Prop}   (kt : x2 ≤ x9 → Ev d m_Mo_samples 109 [o0, o1, some (.int x2), o3, o4, o5, o6, o7, o8, some (.int x9)] st w nc ns Q) (kf : ¬ (x2 ≤ x9) → Ev d m_Mo_samples 82 [o0, o1, some (.int x2), o3, o4, o5, o6, o7, o8, some (.int x9)] st w nc ns Q) : Ev d m_Mo_samples 76 [o0, o1, some (.int x2), o3, o4, o5, o6, o7, o8, some (.int x9)] st w nc ns Q := by
  refine ev_iload d_Mo_samples_76 rfl ?_
  refine ev_iload_n d_Mo_samples_78 rfl ?_
  exact ev_icmp_ge 109 d_Mo_samples_79 (by decide) kt kf
theorem t_Mo_samples_82 {d : Nat} {st : List Value} {a0 : Nat} {x1 : Int32} {o2 : Option Value} {o3 : Option Value} {o4 : Option Value} {o5 : Option Value} {o6 : Option Value} {x7 : Int32} {o8 : Option Value} {o9 : Option Value} {fsb : List Value} {w : qk_W} {nc ns : Nat} {Q : Option Value ⊕ Nat → qk_W → Nat → Nat → Prop}  (hb : wo w a0 11 fsb) (h8 : (st.map fun v => Value.category v).sum ≤ 8) (k : Ev d m_Mo_take 0 [some (.ref a0), some (.int x1), some (.int x7), none, none, none] [] w nc ns (fun r w1 nc1 ns1 => match r with | .inl v => Ev (d + 1) m_Mo_samples 89 [some (.ref a0), some (.int x1), o2, o3, o4, o5, o6, some (.int x7), o8, o9] (v.toList ++ st) w1 nc1 ns1 Q | .inr x => Q (.inr x) w1 nc1 ns1)) : Ev (d + 1) m_Mo_samples 82 [some (.ref a0), some (.int x1), o2, o3, o4, o5, o6, some (.int x7), o8, o9] st w nc ns Q := by
  refine ev_aload_n d_Mo_samples_82 rfl rfl ?_
  refine ev_iload_n d_Mo_samples_83 rfl ?_
  refine ev_iload d_Mo_samples_84 rfl ?_
  exact ev_call (M' := m_Mo_take) (As := [.ref a0, .int x1, .int x7]) (st := st) d_Mo_samples_86 i_Mo_take (fun h => absurd h (by decide +kernel)) cw_Mo_105 rfl rfl ⟨hb.1, 11, _, _, hb.2, rfl, rfl⟩ rfl (Nat.le_of_ble_eq_true rfl) h8 k
theorem t_Mo_samples_89 {d : Nat} {st : List Value} {o0 : Option Value} {o1 : Option Value} {o2 : Option Value} {o3 : Option Value} {o4 : Option Value} {x5 : Int32} {o6 : Option Value} {x7 : Int32} {x8 : Int32} {x9 : Int32} {w : qk_W} {nc ns : Nat} {Q : Option Value ⊕ Nat → qk_W → Nat → Nat → Prop}  (hc1 : qk_c2 [o0, o1, o2, o3, o4, some (.int x5), o6, some (.int x7), some (.int x8), some (.int x9)] 7 = true) (k : Ev d m_Mo_samples 76 [o0, o1, o2, o3, o4, some (.int x5), o6, some (.int (x7 + x8)), some (.int (x8 + x5)), some (.int (x9 + 1))] st w nc ns Q) : Ev d m_Mo_samples 89 [o0, o1, o2, o3, o4, some (.int x5), o6, some (.int x7), some (.int x8), some (.int x9)] st w nc ns Q := by
  refine ev_iload d_Mo_samples_89 rfl ?_
  refine ev_iload d_Mo_samples_91 rfl ?_
  refine ev_iadd d_Mo_samples_93 ?_
  refine ev_istore d_Mo_samples_94 (by decide) hc1 ?_
  refine ev_iload d_Mo_samples_96 rfl ?_
  refine ev_iload d_Mo_samples_98 rfl ?_
  refine ev_iadd d_Mo_samples_100 ?_
  refine ev_istore d_Mo_samples_101 (by decide) rfl ?_
  refine ev_iinc 1 d_Mo_samples_103 (by decide) rfl (by decide) rfl ?_
  refine ev_goto 76 d_Mo_samples_106 (by decide) ?_
  exact k
theorem t_Mo_samples_109 {d : Nat} {o0 : Option Value} {o1 : Option Value} {o2 : Option Value} {o3 : Option Value} {o4 : Option Value} {o5 : Option Value} {x6 : Int32} {o7 : Option Value} {o8 : Option Value} {o9 : Option Value} {w : qk_W} {nc ns : Nat} {Q : Option Value ⊕ Nat → qk_W → Nat → Nat → Prop}   (hq : Q (.inl (some (.int x6))) w nc ns) : Ev d m_Mo_samples 109 [o0, o1, o2, o3, o4, o5, some (.int x6), o7, o8, o9] [] w nc ns Q := by
  refine ev_iload d_Mo_samples_109 rfl ?_
  exact ev_iret d_Mo_samples_111 rfl rfl hq
/-! Mo_quality -/
theorem d_Mo_quality_0 : decode m_Mo_quality.2.1 0 = .ok (.aload_n 0, 1) := by decide +kernel
theorem d_Mo_quality_1 : decode m_Mo_quality.2.1 1 = .ok (.iload_n 1, 1) := by decide +kernel
theorem d_Mo_quality_2 : decode m_Mo_quality.2.1 2 = .ok (.ifCond .lt 9, 3) := by decide +kernel
theorem d_Mo_quality_5 : decode m_Mo_quality.2.1 5 = .ok (.iload_n 1, 1) := by decide +kernel
theorem d_Mo_quality_6 : decode m_Mo_quality.2.1 6 = .ok (.bipush 100, 2) := by decide +kernel
theorem d_Mo_quality_8 : decode m_Mo_quality.2.1 8 = .ok (.if_icmp .le 7, 3) := by decide +kernel
theorem d_Mo_quality_11 : decode m_Mo_quality.2.1 11 = .ok (.iconst 1, 1) := by decide +kernel
theorem d_Mo_quality_12 : decode m_Mo_quality.2.1 12 = .ok (.goto 4, 3) := by decide +kernel
theorem d_Mo_quality_15 : decode m_Mo_quality.2.1 15 = .ok (.iconst 0, 1) := by decide +kernel
theorem d_Mo_quality_16 : decode m_Mo_quality.2.1 16 = .ok (.putfield 69, 3) := by decide +kernel
theorem d_Mo_quality_19 : decode m_Mo_quality.2.1 19 = .ok (.aload_n 0, 1) := by decide +kernel
theorem d_Mo_quality_20 : decode m_Mo_quality.2.1 20 = .ok (.aload_n 0, 1) := by decide +kernel
theorem d_Mo_quality_21 : decode m_Mo_quality.2.1 21 = .ok (.getfield 69, 3) := by decide +kernel
theorem d_Mo_quality_24 : decode m_Mo_quality.2.1 24 = .ok (.ifCond .ne 7, 3) := by decide +kernel
theorem d_Mo_quality_27 : decode m_Mo_quality.2.1 27 = .ok (.iload_n 1, 1) := by decide +kernel
theorem d_Mo_quality_28 : decode m_Mo_quality.2.1 28 = .ok (.goto 7, 3) := by decide +kernel
theorem d_Mo_quality_31 : decode m_Mo_quality.2.1 31 = .ok (.aload_n 0, 1) := by decide +kernel
theorem d_Mo_quality_32 : decode m_Mo_quality.2.1 32 = .ok (.getfield 23, 3) := by decide +kernel
theorem d_Mo_quality_35 : decode m_Mo_quality.2.1 35 = .ok (.putfield 23, 3) := by decide +kernel
theorem d_Mo_quality_38 : decode m_Mo_quality.2.1 38 = .ok (.return_, 1) := by decide +kernel
theorem t_Mo_quality_0 {d : Nat} {st : List Value} {v0 : Value} {x1 : Int32} {w : qk_W} {nc ns : Nat} {Q : Option Value ⊕ Nat → qk_W → Nat → Nat → Prop} (hv0 : qk_isr v0 = true)  (kt : x1 < 0 → Ev d m_Mo_quality 11 [some v0, some (.int x1)] (v0 :: st) w nc ns Q) (kf : ¬ (x1 < 0) → Ev d m_Mo_quality 5 [some v0, some (.int x1)] (v0 :: st) w nc ns Q) : Ev d m_Mo_quality 0 [some v0, some (.int x1)] st w nc ns Q := by
  refine ev_aload_n d_Mo_quality_0 rfl hv0 ?_
  refine ev_iload_n d_Mo_quality_1 rfl ?_
  exact ev_if_lt 11 d_Mo_quality_2 (by decide) kt kf
theorem t_Mo_quality_5 {d : Nat} {st : List Value} {o0 : Option Value} {x1 : Int32} {w : qk_W} {nc ns : Nat} {Q : Option Value ⊕ Nat → qk_W → Nat → Nat → Prop}   (kt : x1 ≤ (100 : Int32) → Ev d m_Mo_quality 15 [o0, some (.int x1)] st w nc ns Q) (kf : ¬ (x1 ≤ (100 : Int32)) → Ev d m_Mo_quality 11 [o0, some (.int x1)] st w nc ns Q) : Ev d m_Mo_quality 5 [o0, some (.int x1)] st w nc ns Q := by
  refine ev_iload_n d_Mo_quality_5 rfl ?_
  refine ev_bipush 100 d_Mo_quality_6 (by decide) ?_
  exact ev_icmp_le 15 d_Mo_quality_8 (by decide) kt kf
theorem t_Mo_quality_11 {d : Nat} {st : List Value} {o0 : Option Value} {o1 : Option Value} {b0 : Nat} {fs2 : List Value} {w : qk_W} {nc ns : Nat} {Q : Option Value ⊕ Nat → qk_W → Nat → Nat → Prop}  (hw1 : wo w b0 11 fs2) (hk : 0 < fs2.length) (k : Ev d m_Mo_quality 19 [o0, o1] st (qk_set w b0 (.inr (11, fs2.set 0 (.int 1)))) nc ns Q) : Ev d m_Mo_quality 11 [o0, o1] (.ref b0 :: st) w nc ns Q := by
  refine ev_iconst 1 d_Mo_quality_11 (by decide) ?_
  refine ev_goto 16 d_Mo_quality_12 (by decide) ?_
  exact ev_putf d_Mo_quality_16 fl_Mo_69 rfl hw1.1 hw1.2 hk (qk_fitI _) k
theorem t_Mo_quality_15 {d : Nat} {st : List Value} {o0 : Option Value} {o1 : Option Value} {b0 : Nat} {fs2 : List Value} {w : qk_W} {nc ns : Nat} {Q : Option Value ⊕ Nat → qk_W → Nat → Nat → Prop}  (hw1 : wo w b0 11 fs2) (hk : 0 < fs2.length) (k : Ev d m_Mo_quality 19 [o0, o1] st (qk_set w b0 (.inr (11, fs2.set 0 (.int 0)))) nc ns Q) : Ev d m_Mo_quality 15 [o0, o1] (.ref b0 :: st) w nc ns Q := by
  refine ev_iconst 0 d_Mo_quality_15 (by decide) ?_
  exact ev_putf d_Mo_quality_16 fl_Mo_69 rfl hw1.1 hw1.2 hk (qk_fitI _) k
theorem t_Mo_quality_19 {d : Nat} {st : List Value} {a0 : Nat} {o1 : Option Value} {fs2 : List Value} {n4 : Int32} {w : qk_W} {nc ns : Nat} {Q : Option Value ⊕ Nat → qk_W → Nat → Nat → Prop}  (hw1 : wo w a0 11 fs2) (hf3 : fs2[0]? = some (.int n4)) (kt : ¬ n4 = 0 → Ev d m_Mo_quality 31 [some (.ref a0), o1] (.ref a0 :: st) w nc ns Q) (kf : n4 = 0 → Ev d m_Mo_quality 27 [some (.ref a0), o1] (.ref a0 :: st) w nc ns Q) : Ev d m_Mo_quality 19 [some (.ref a0), o1] st w nc ns Q := by
  refine ev_aload_n d_Mo_quality_19 rfl rfl ?_
  refine ev_aload_n d_Mo_quality_20 rfl rfl ?_
  refine ev_getf d_Mo_quality_21 fl_Mo_69 hw1.1 hw1.2 hf3 ?_
  exact ev_if_ne 31 d_Mo_quality_24 (by decide) kt kf
theorem t_Mo_quality_27 {d : Nat} {st : List Value} {o0 : Option Value} {x1 : Int32} {b0 : Nat} {fs2 : List Value} {w : qk_W} {nc ns : Nat} {Q : Option Value ⊕ Nat → qk_W → Nat → Nat → Prop}  (hw1 : wo w b0 11 fs2) (hk : 5 < fs2.length) (k : Ev d m_Mo_quality 38 [o0, some (.int x1)] st (qk_set w b0 (.inr (11, fs2.set 5 (.int x1)))) nc ns Q) : Ev d m_Mo_quality 27 [o0, some (.int x1)] (.ref b0 :: st) w nc ns Q := by
  refine ev_iload_n d_Mo_quality_27 rfl ?_
  refine ev_goto 35 d_Mo_quality_28 (by decide) ?_
  exact ev_putf d_Mo_quality_35 fl_Mo_23 rfl hw1.1 hw1.2 hk (qk_fitI _) k
theorem t_Mo_quality_31 {d : Nat} {st : List Value} {a0 : Nat} {o1 : Option Value} {b0 : Nat} {fs2 : List Value} {n4 : Int32} {fs6 : List Value} {w : qk_W} {nc ns : Nat} {Q : Option Value ⊕ Nat → qk_W → Nat → Nat → Prop}  (hw1 : wo w a0 11 fs2) (hf3 : fs2[5]? = some (.int n4)) (hw5 : wo w b0 11 fs6) (hk : 5 < fs6.length) (k : Ev d m_Mo_quality 38 [some (.ref a0), o1] st (qk_set w b0 (.inr (11, fs6.set 5 (.int n4)))) nc ns Q) : Ev d m_Mo_quality 31 [some (.ref a0), o1] (.ref b0 :: st) w nc ns Q := by
  refine ev_aload_n d_Mo_quality_31 rfl rfl ?_
  refine ev_getf d_Mo_quality_32 fl_Mo_23 hw1.1 hw1.2 hf3 ?_
  exact ev_putf d_Mo_quality_35 fl_Mo_23 rfl hw5.1 hw5.2 hk (qk_fitI _) k
theorem t_Mo_quality_38 {d : Nat} {o0 : Option Value} {o1 : Option Value} {w : qk_W} {nc ns : Nat} {Q : Option Value ⊕ Nat → qk_W → Nat → Nat → Prop}   (hq : Q (.inl none) w nc ns) : Ev d m_Mo_quality 38 [o0, o1] [] w nc ns Q := by
  exact ev_vret d_Mo_quality_38 rfl hq
/-! Mo_flush -/
theorem d_Mo_flush_0 : decode m_Mo_flush.2.1 0 = .ok (.aload_n 0, 1) := by decide +kernel
theorem d_Mo_flush_1 : decode m_Mo_flush.2.1 1 = .ok (.iload_n 1, 1) := by decide +kernel
theorem d_Mo_flush_2 : decode m_Mo_flush.2.1 2 = .ok (.invokestatic 101, 3) := by decide +kernel
theorem d_Mo_flush_5 : decode m_Mo_flush.2.1 5 = .ok (.ifCond .eq 7, 3) := by decide +kernel
theorem d_Mo_flush_8 : decode m_Mo_flush.2.1 8 = .ok (.iconst 0, 1) := by decide +kernel
theorem d_Mo_flush_9 : decode m_Mo_flush.2.1 9 = .ok (.goto 4, 3) := by decide +kernel
theorem d_Mo_flush_12 : decode m_Mo_flush.2.1 12 = .ok (.iconst 1, 1) := by decide +kernel
theorem d_Mo_flush_13 : decode m_Mo_flush.2.1 13 = .ok (.putfield 69, 3) := by decide +kernel
theorem d_Mo_flush_16 : decode m_Mo_flush.2.1 16 = .ok (.aload_n 0, 1) := by decide +kernel
theorem d_Mo_flush_17 : decode m_Mo_flush.2.1 17 = .ok (.getfield 69, 3) := by decide +kernel
theorem d_Mo_flush_20 : decode m_Mo_flush.2.1 20 = .ok (.ifCond .le 5, 3) := by decide +kernel
theorem d_Mo_flush_23 : decode m_Mo_flush.2.1 23 = .ok (.iconst 0, 1) := by decide +kernel
theorem d_Mo_flush_24 : decode m_Mo_flush.2.1 24 = .ok (.ireturn, 1) := by decide +kernel
theorem d_Mo_flush_25 : decode m_Mo_flush.2.1 25 = .ok (.aload_n 0, 1) := by decide +kernel
theorem d_Mo_flush_26 : decode m_Mo_flush.2.1 26 = .ok (.getfield 14, 3) := by decide +kernel
theorem d_Mo_flush_29 : decode m_Mo_flush.2.1 29 = .ok (.iload_n 1, 1) := by decide +kernel
theorem d_Mo_flush_30 : decode m_Mo_flush.2.1 30 = .ok (.iaload, 1) := by decide +kernel
theorem d_Mo_flush_31 : decode m_Mo_flush.2.1 31 = .ok (.aload_n 0, 1) := by decide +kernel
theorem d_Mo_flush_32 : decode m_Mo_flush.2.1 32 = .ok (.getfield 17, 3) := by decide +kernel
theorem d_Mo_flush_35 : decode m_Mo_flush.2.1 35 = .ok (.iload_n 1, 1) := by decide +kernel
theorem d_Mo_flush_36 : decode m_Mo_flush.2.1 36 = .ok (.iaload, 1) := by decide +kernel
theorem d_Mo_flush_37 : decode m_Mo_flush.2.1 37 = .ok (.isub, 1) := by decide +kernel
theorem d_Mo_flush_38 : decode m_Mo_flush.2.1 38 = .ok (.istore_n 2, 1) := by decide +kernel
theorem d_Mo_flush_39 : decode m_Mo_flush.2.1 39 = .ok (.iload_n 2, 1) := by decide +kernel
theorem d_Mo_flush_40 : decode m_Mo_flush.2.1 40 = .ok (.ifCond .le 8, 3) := by decide +kernel
theorem d_Mo_flush_43 : decode m_Mo_flush.2.1 43 = .ok (.aload_n 0, 1) := by decide +kernel
theorem d_Mo_flush_44 : decode m_Mo_flush.2.1 44 = .ok (.iload_n 1, 1) := by decide +kernel
theorem d_Mo_flush_45 : decode m_Mo_flush.2.1 45 = .ok (.invokevirtual 97, 3) := by decide +kernel
theorem d_Mo_flush_48 : decode m_Mo_flush.2.1 48 = .ok (.iload_n 2, 1) := by decide +kernel
theorem d_Mo_flush_49 : decode m_Mo_flush.2.1 49 = .ok (.ireturn, 1) := by decide +kernel
theorem t_Mo_flush_0 {d : Nat} {st : List Value} {v0 : Value} {x1 : Int32} {o2 : Option Value} {w : qk_W} {nc ns : Nat} {Q : Option Value ⊕ Nat → qk_W → Nat → Nat → Prop} (hv0 : qk_isr v0 = true) (h8 : ((v0 :: st).map fun v => Value.category v).sum ≤ 8) (k : Ev d m_Mo_isChannel 0 [some (.int x1)] [] w nc ns (fun r w1 nc1 ns1 => match r with | .inl v => Ev (d + 1) m_Mo_flush 5 [some v0, some (.int x1), o2] (v.toList ++ (v0 :: st)) w1 nc1 ns1 Q | .inr x => Q (.inr x) w1 nc1 ns1)) : Ev (d + 1) m_Mo_flush 0 [some v0, some (.int x1), o2] st w nc ns Q := by
  refine ev_aload_n d_Mo_flush_0 rfl hv0 ?_
  refine ev_iload_n d_Mo_flush_1 rfl ?_
  exact ev_call (M' := m_Mo_isChannel) (As := [.int x1]) (st := (v0 :: st)) d_Mo_flush_2 i_Mo_isChannel (fun h => absurd h (by decide +kernel)) cw_Mo_101 rfl rfl trivial rfl (Nat.le_of_ble_eq_true rfl) h8 k
theorem t_Mo_flush_5 {d : Nat} {st : List Value} {o0 : Option Value} {o1 : Option Value} {o2 : Option Value} {y0 : Int32} {w : qk_W} {nc ns : Nat} {Q : Option Value ⊕ Nat → qk_W → Nat → Nat → Prop}   (kt : y0 = 0 → Ev d m_Mo_flush 12 [o0, o1, o2] st w nc ns Q) (kf : ¬ (y0 = 0) → Ev d m_Mo_flush 8 [o0, o1, o2] st w nc ns Q) : Ev d m_Mo_flush 5 [o0, o1, o2] (.int y0 :: st) w nc ns Q := by
  exact ev_if_eq 12 d_Mo_flush_5 (by decide) kt kf
theorem t_Mo_flush_8 {d : Nat} {st : List Value} {o0 : Option Value} {o1 : Option Value} {o2 : Option Value} {b0 : Nat} {fs2 : List Value} {w : qk_W} {nc ns : Nat} {Q : Option Value ⊕ Nat → qk_W → Nat → Nat → Prop}  (hw1 : wo w b0 11 fs2) (hk : 0 < fs2.length) (k : Ev d m_Mo_flush 16 [o0, o1, o2] st (qk_set w b0 (.inr (11, fs2.set 0 (.int 0)))) nc ns Q) : Ev d m_Mo_flush 8 [o0, o1, o2] (.ref b0 :: st) w nc ns Q := by
  refine ev_iconst 0 d_Mo_flush_8 (by decide) ?_
  refine ev_goto 13 d_Mo_flush_9 (by decide) ?_
  exact ev_putf d_Mo_flush_13 fl_Mo_69 rfl hw1.1 hw1.2 hk (qk_fitI _) k
theorem t_Mo_flush_12 {d : Nat} {st : List Value} {o0 : Option Value} {o1 : Option Value} {o2 : Option Value} {b0 : Nat} {fs2 : List Value} {w : qk_W} {nc ns : Nat} {Q : Option Value ⊕ Nat → qk_W → Nat → Nat → Prop}  (hw1 : wo w b0 11 fs2) (hk : 0 < fs2.length) (k : Ev d m_Mo_flush 16 [o0, o1, o2] st (qk_set w b0 (.inr (11, fs2.set 0 (.int 1)))) nc ns Q) : Ev d m_Mo_flush 12 [o0, o1, o2] (.ref b0 :: st) w nc ns Q := by
  refine ev_iconst 1 d_Mo_flush_12 (by decide) ?_
  exact ev_putf d_Mo_flush_13 fl_Mo_69 rfl hw1.1 hw1.2 hk (qk_fitI _) k
theorem t_Mo_flush_16 {d : Nat} {st : List Value} {a0 : Nat} {o1 : Option Value} {o2 : Option Value} {fs2 : List Value} {n4 : Int32} {w : qk_W} {nc ns : Nat} {Q : Option Value ⊕ Nat → qk_W → Nat → Nat → Prop}  (hw1 : wo w a0 11 fs2) (hf3 : fs2[0]? = some (.int n4)) (kt : n4 ≤ 0 → Ev d m_Mo_flush 25 [some (.ref a0), o1, o2] st w nc ns Q) (kf : ¬ (n4 ≤ 0) → Ev d m_Mo_flush 23 [some (.ref a0), o1, o2] st w nc ns Q) : Ev d m_Mo_flush 16 [some (.ref a0), o1, o2] st w nc ns Q := by
  refine ev_aload_n d_Mo_flush_16 rfl rfl ?_
  refine ev_getf d_Mo_flush_17 fl_Mo_69 hw1.1 hw1.2 hf3 ?_
  exact ev_if_le 25 d_Mo_flush_20 (by decide) kt kf
theorem t_Mo_flush_23 {d : Nat} {o0 : Option Value} {o1 : Option Value} {o2 : Option Value} {w : qk_W} {nc ns : Nat} {Q : Option Value ⊕ Nat → qk_W → Nat → Nat → Prop}   (hq : Q (.inl (some (.int 0))) w nc ns) : Ev d m_Mo_flush 23 [o0, o1, o2] [] w nc ns Q := by
  refine ev_iconst 0 d_Mo_flush_23 (by decide) ?_
  exact ev_iret d_Mo_flush_24 rfl rfl hq
theorem t_Mo_flush_25 {d : Nat} {st : List Value} {a0 : Nat} {x1 : Int32} {o2 : Option Value} {fs2 : List Value} {c4 : Nat} {n6 : Nat} {f7 : Nat → Int32} {c12 : Nat} {n14 : Nat} {f15 : Nat → Int32} {w : qk_W} {nc ns : Nat} {Q : Option Value ⊕ Nat → qk_W → Nat → Nat → Prop}  (hw1 : wo w a0 11 fs2) (hf3 : fs2[2]? = some (.ref c4)) (ha5 : wi w c4 n6 f7) (hi8 : vp_in x1 n6) (hf11 : fs2[3]? = some (.ref c12)) (ha13 : wi w c12 n14 f15) (hi16 : vp_in x1 n14) (kt : ((f7 x1.toNatClampNeg) - (f15 x1.toNatClampNeg)) ≤ 0 → Ev d m_Mo_flush 48 [some (.ref a0), some (.int x1), some (.int ((f7 x1.toNatClampNeg) - (f15 x1.toNatClampNeg)))] st w nc ns Q) (kf : ¬ (((f7 x1.toNatClampNeg) - (f15 x1.toNatClampNeg)) ≤ 0) → Ev d m_Mo_flush 43 [some (.ref a0), some (.int x1), some (.int ((f7 x1.toNatClampNeg) - (f15 x1.toNatClampNeg)))] st w nc ns Q) : Ev d m_Mo_flush 25 [some (.ref a0), some (.int x1), o2] st w nc ns Q := by
  refine ev_aload_n d_Mo_flush_25 rfl rfl ?_
  refine ev_getf d_Mo_flush_26 fl_Mo_14 hw1.1 hw1.2 hf3 ?_
  refine ev_iload_n d_Mo_flush_29 rfl ?_
  refine ev_iald d_Mo_flush_30 ha5 hi8 ?_
  refine ev_aload_n d_Mo_flush_31 rfl rfl ?_
  refine ev_getf d_Mo_flush_32 fl_Mo_17 hw1.1 hw1.2 hf11 ?_
  refine ev_iload_n d_Mo_flush_35 rfl ?_
  refine ev_iald d_Mo_flush_36 ha13 hi16 ?_
  refine ev_isub d_Mo_flush_37 ?_
  refine ev_istore_n d_Mo_flush_38 (by decide) rfl ?_
  refine ev_iload_n d_Mo_flush_39 rfl ?_
  exact ev_if_le 48 d_Mo_flush_40 (by decide) kt kf
theorem t_Mo_flush_43 {d : Nat} {st : List Value} {a0 : Nat} {x1 : Int32} {o2 : Option Value} {fsb : List Value} {w : qk_W} {nc ns : Nat} {Q : Option Value ⊕ Nat → qk_W → Nat → Nat → Prop}  (hb : wo w a0 11 fsb) (h8 : (st.map fun v => Value.category v).sum ≤ 8) (k : Ev d m_Mo_close 0 [some (.ref a0), some (.int x1), none, none] [] w nc ns (fun r w1 nc1 ns1 => match r with | .inl v => Ev (d + 1) m_Mo_flush 48 [some (.ref a0), some (.int x1), o2] (v.toList ++ st) w1 nc1 ns1 Q | .inr x => Q (.inr x) w1 nc1 ns1)) : Ev (d + 1) m_Mo_flush 43 [some (.ref a0), some (.int x1), o2] st w nc ns Q := by
  refine ev_aload_n d_Mo_flush_43 rfl rfl ?_
  refine ev_iload_n d_Mo_flush_44 rfl ?_
  exact ev_call (M' := m_Mo_close) (As := [.ref a0, .int x1]) (st := st) d_Mo_flush_45 i_Mo_close (fun h => absurd h (by decide +kernel)) cw_Mo_97 rfl rfl ⟨hb.1, 11, _, _, hb.2, rfl, rfl⟩ rfl (Nat.le_of_ble_eq_true rfl) h8 k
theorem t_Mo_flush_48 {d : Nat} {o0 : Option Value} {o1 : Option Value} {x2 : Int32} {w : qk_W} {nc ns : Nat} {Q : Option Value ⊕ Nat → qk_W → Nat → Nat → Prop}   (hq : Q (.inl (some (.int x2))) w nc ns) : Ev d m_Mo_flush 48 [o0, o1, some (.int x2)] [] w nc ns Q := by
  refine ev_iload_n d_Mo_flush_48 rfl ?_
  exact ev_iret d_Mo_flush_49 rfl rfl hq
/-! Mo_turn -/
theorem cw_Mo_136 : qk_cw "QuakeLinkModel" m_Mo_leastAsked.1 (.invokevirtual 136) := ⟨(lw_i5 _ (List.mem_of_getElem? (i := 97) rfl)), (lw_i5 _ (List.mem_of_getElem? (i := 99) rfl)), (lw_i0 _ (List.mem_of_getElem? (i := 27) rfl))⟩
theorem fl_Mo_139 : qk_fl "QuakeLinkModel" 139 11 13 := ⟨_, rfl, by decide, rfl, (lw_i4 _ (List.mem_of_getElem? (i := 189) rfl))⟩
theorem cw_Mo_143 : qk_cw "QuakeLinkModel" m_Mo_send.1 (.invokevirtual 143) := ⟨(lw_i5 _ (List.mem_of_getElem? (i := 101) rfl)), (lw_i5 _ (List.mem_of_getElem? (i := 103) rfl)), (lw_i0 _ (List.mem_of_getElem? (i := 28) rfl))⟩
theorem cw_Mo_129 : qk_cw "QuakeLinkModel" m_Mo_oldest.1 (.invokevirtual 129) := ⟨(lw_i5 _ (List.mem_of_getElem? (i := 113) rfl)), (lw_i5 _ (List.mem_of_getElem? (i := 115) rfl)), (lw_i0 _ (List.mem_of_getElem? (i := 31) rfl))⟩
theorem cw_Mo_146 : qk_cw "QuakeLinkModel" m_Mo_unask.1 (.invokevirtual 146) := ⟨(lw_i5 _ (List.mem_of_getElem? (i := 126) rfl)), (lw_i5 _ (List.mem_of_getElem? (i := 128) rfl)), (lw_i0 _ (List.mem_of_getElem? (i := 34) rfl))⟩
theorem cw_Mo_150 : qk_cw "QuakeLinkModel" m_Mo_sendEmpty.1 (.invokevirtual 150) := ⟨(lw_i5 _ (List.mem_of_getElem? (i := 130) rfl)), (lw_i5 _ (List.mem_of_getElem? (i := 132) rfl)), (lw_i0 _ (List.mem_of_getElem? (i := 35) rfl))⟩
theorem d_Mo_turn_0 : decode m_Mo_turn.2.1 0 = .ok (.aload_n 0, 1) := by decide +kernel
theorem d_Mo_turn_1 : decode m_Mo_turn.2.1 1 = .ok (.iconst 0, 1) := by decide +kernel
theorem d_Mo_turn_2 : decode m_Mo_turn.2.1 2 = .ok (.putfield 69, 3) := by decide +kernel
theorem d_Mo_turn_5 : decode m_Mo_turn.2.1 5 = .ok (.iconst 0, 1) := by decide +kernel
theorem d_Mo_turn_6 : decode m_Mo_turn.2.1 6 = .ok (.istore_n 1, 1) := by decide +kernel
theorem d_Mo_turn_7 : decode m_Mo_turn.2.1 7 = .ok (.iload_n 1, 1) := by decide +kernel
theorem d_Mo_turn_8 : decode m_Mo_turn.2.1 8 = .ok (.aload_n 0, 1) := by decide +kernel
theorem d_Mo_turn_9 : decode m_Mo_turn.2.1 9 = .ok (.getfield 88, 3) := by decide +kernel
theorem d_Mo_turn_12 : decode m_Mo_turn.2.1 12 = .ok (.if_icmp .ge 18, 3) := by decide +kernel
theorem d_Mo_turn_15 : decode m_Mo_turn.2.1 15 = .ok (.aload_n 0, 1) := by decide +kernel
theorem d_Mo_turn_16 : decode m_Mo_turn.2.1 16 = .ok (.getfield 39, 3) := by decide +kernel
theorem d_Mo_turn_19 : decode m_Mo_turn.2.1 19 = .ok (.iload_n 1, 1) := by decide +kernel
theorem d_Mo_turn_20 : decode m_Mo_turn.2.1 20 = .ok (.baload, 1) := by decide +kernel
theorem d_Mo_turn_21 : decode m_Mo_turn.2.1 21 = .ok (.ifCond .ne 9, 3) := by decide +kernel
theorem d_Mo_turn_24 : decode m_Mo_turn.2.1 24 = .ok (.iinc 1 1, 3) := by decide +kernel
theorem d_Mo_turn_27 : decode m_Mo_turn.2.1 27 = .ok (.goto (-20), 3) := by decide +kernel
theorem d_Mo_turn_30 : decode m_Mo_turn.2.1 30 = .ok (.iconst 0, 1) := by decide +kernel
theorem d_Mo_turn_31 : decode m_Mo_turn.2.1 31 = .ok (.istore_n 2, 1) := by decide +kernel
theorem d_Mo_turn_32 : decode m_Mo_turn.2.1 32 = .ok (.iconst 1, 1) := by decide +kernel
theorem d_Mo_turn_33 : decode m_Mo_turn.2.1 33 = .ok (.istore_n 3, 1) := by decide +kernel
theorem d_Mo_turn_34 : decode m_Mo_turn.2.1 34 = .ok (.iload_n 3, 1) := by decide +kernel
theorem d_Mo_turn_35 : decode m_Mo_turn.2.1 35 = .ok (.iconst 4, 1) := by decide +kernel
theorem d_Mo_turn_36 : decode m_Mo_turn.2.1 36 = .ok (.if_icmp .ge 28, 3) := by decide +kernel
theorem d_Mo_turn_39 : decode m_Mo_turn.2.1 39 = .ok (.aload_n 0, 1) := by decide +kernel
theorem d_Mo_turn_40 : decode m_Mo_turn.2.1 40 = .ok (.iload_n 3, 1) := by decide +kernel
theorem d_Mo_turn_41 : decode m_Mo_turn.2.1 41 = .ok (.invokevirtual 136, 3) := by decide +kernel
theorem d_Mo_turn_44 : decode m_Mo_turn.2.1 44 = .ok (.aload_n 0, 1) := by decide +kernel
theorem d_Mo_turn_45 : decode m_Mo_turn.2.1 45 = .ok (.iload_n 2, 1) := by decide +kernel
theorem d_Mo_turn_46 : decode m_Mo_turn.2.1 46 = .ok (.invokevirtual 136, 3) := by decide +kernel
theorem d_Mo_turn_49 : decode m_Mo_turn.2.1 49 = .ok (.if_icmp .ge 7, 3) := by decide +kernel
theorem d_Mo_turn_52 : decode m_Mo_turn.2.1 52 = .ok (.iload_n 3, 1) := by decide +kernel
theorem d_Mo_turn_53 : decode m_Mo_turn.2.1 53 = .ok (.goto 4, 3) := by decide +kernel
theorem d_Mo_turn_56 : decode m_Mo_turn.2.1 56 = .ok (.iload_n 2, 1) := by decide +kernel
theorem d_Mo_turn_57 : decode m_Mo_turn.2.1 57 = .ok (.istore_n 2, 1) := by decide +kernel
theorem d_Mo_turn_58 : decode m_Mo_turn.2.1 58 = .ok (.iinc 3 1, 3) := by decide +kernel
theorem d_Mo_turn_61 : decode m_Mo_turn.2.1 61 = .ok (.goto (-27), 3) := by decide +kernel
theorem d_Mo_turn_64 : decode m_Mo_turn.2.1 64 = .ok (.aload_n 0, 1) := by decide +kernel
theorem d_Mo_turn_65 : decode m_Mo_turn.2.1 65 = .ok (.iload_n 2, 1) := by decide +kernel
theorem d_Mo_turn_66 : decode m_Mo_turn.2.1 66 = .ok (.invokevirtual 136, 3) := by decide +kernel
theorem d_Mo_turn_69 : decode m_Mo_turn.2.1 69 = .ok (.istore_n 3, 1) := by decide +kernel
theorem d_Mo_turn_70 : decode m_Mo_turn.2.1 70 = .ok (.iload_n 1, 1) := by decide +kernel
theorem d_Mo_turn_71 : decode m_Mo_turn.2.1 71 = .ok (.aload_n 0, 1) := by decide +kernel
theorem d_Mo_turn_72 : decode m_Mo_turn.2.1 72 = .ok (.getfield 88, 3) := by decide +kernel
theorem d_Mo_turn_75 : decode m_Mo_turn.2.1 75 = .ok (.if_icmp .ge 34, 3) := by decide +kernel
theorem d_Mo_turn_78 : decode m_Mo_turn.2.1 78 = .ok (.iload_n 3, 1) := by decide +kernel
theorem d_Mo_turn_79 : decode m_Mo_turn.2.1 79 = .ok (.ldc 46, 2) := by decide +kernel
theorem d_Mo_turn_81 : decode m_Mo_turn.2.1 81 = .ok (.if_icmp .eq 10, 3) := by decide +kernel
theorem d_Mo_turn_84 : decode m_Mo_turn.2.1 84 = .ok (.aload_n 0, 1) := by decide +kernel
theorem d_Mo_turn_85 : decode m_Mo_turn.2.1 85 = .ok (.getfield 139, 3) := by decide +kernel
theorem d_Mo_turn_88 : decode m_Mo_turn.2.1 88 = .ok (.ifCond .ne 21, 3) := by decide +kernel
theorem d_Mo_turn_91 : decode m_Mo_turn.2.1 91 = .ok (.aload_n 0, 1) := by decide +kernel
theorem d_Mo_turn_92 : decode m_Mo_turn.2.1 92 = .ok (.getfield 39, 3) := by decide +kernel
theorem d_Mo_turn_95 : decode m_Mo_turn.2.1 95 = .ok (.iload_n 1, 1) := by decide +kernel
theorem d_Mo_turn_96 : decode m_Mo_turn.2.1 96 = .ok (.iconst 0, 1) := by decide +kernel
theorem d_Mo_turn_97 : decode m_Mo_turn.2.1 97 = .ok (.bastore, 1) := by decide +kernel
theorem d_Mo_turn_98 : decode m_Mo_turn.2.1 98 = .ok (.aload_n 0, 1) := by decide +kernel
theorem d_Mo_turn_99 : decode m_Mo_turn.2.1 99 = .ok (.iconst 1, 1) := by decide +kernel
theorem d_Mo_turn_100 : decode m_Mo_turn.2.1 100 = .ok (.putfield 139, 3) := by decide +kernel
theorem d_Mo_turn_103 : decode m_Mo_turn.2.1 103 = .ok (.aload_n 0, 1) := by decide +kernel
theorem d_Mo_turn_104 : decode m_Mo_turn.2.1 104 = .ok (.iload_n 1, 1) := by decide +kernel
theorem d_Mo_turn_105 : decode m_Mo_turn.2.1 105 = .ok (.invokevirtual 143, 3) := by decide +kernel
theorem d_Mo_turn_108 : decode m_Mo_turn.2.1 108 = .ok (.ireturn, 1) := by decide +kernel
theorem d_Mo_turn_109 : decode m_Mo_turn.2.1 109 = .ok (.iload_n 3, 1) := by decide +kernel
theorem d_Mo_turn_110 : decode m_Mo_turn.2.1 110 = .ok (.ldc 46, 2) := by decide +kernel
theorem d_Mo_turn_112 : decode m_Mo_turn.2.1 112 = .ok (.if_icmp .ne 5, 3) := by decide +kernel
theorem d_Mo_turn_115 : decode m_Mo_turn.2.1 115 = .ok (.iconst (-1), 1) := by decide +kernel
theorem d_Mo_turn_116 : decode m_Mo_turn.2.1 116 = .ok (.ireturn, 1) := by decide +kernel
theorem d_Mo_turn_117 : decode m_Mo_turn.2.1 117 = .ok (.aload_n 0, 1) := by decide +kernel
theorem d_Mo_turn_118 : decode m_Mo_turn.2.1 118 = .ok (.iconst 0, 1) := by decide +kernel
theorem d_Mo_turn_119 : decode m_Mo_turn.2.1 119 = .ok (.putfield 139, 3) := by decide +kernel
theorem d_Mo_turn_122 : decode m_Mo_turn.2.1 122 = .ok (.aload_n 0, 1) := by decide +kernel
theorem d_Mo_turn_123 : decode m_Mo_turn.2.1 123 = .ok (.iload_n 2, 1) := by decide +kernel
theorem d_Mo_turn_124 : decode m_Mo_turn.2.1 124 = .ok (.invokevirtual 129, 3) := by decide +kernel
theorem d_Mo_turn_127 : decode m_Mo_turn.2.1 127 = .ok (.istore 4, 2) := by decide +kernel
theorem d_Mo_turn_129 : decode m_Mo_turn.2.1 129 = .ok (.iload_n 3, 1) := by decide +kernel
theorem d_Mo_turn_130 : decode m_Mo_turn.2.1 130 = .ok (.iload 4, 2) := by decide +kernel
theorem d_Mo_turn_132 : decode m_Mo_turn.2.1 132 = .ok (.if_icmp .ge 17, 3) := by decide +kernel
theorem d_Mo_turn_135 : decode m_Mo_turn.2.1 135 = .ok (.aload_n 0, 1) := by decide +kernel
theorem d_Mo_turn_136 : decode m_Mo_turn.2.1 136 = .ok (.iload_n 2, 1) := by decide +kernel
theorem d_Mo_turn_137 : decode m_Mo_turn.2.1 137 = .ok (.iconst 0, 1) := by decide +kernel
theorem d_Mo_turn_138 : decode m_Mo_turn.2.1 138 = .ok (.iload 4, 2) := by decide +kernel
theorem d_Mo_turn_140 : decode m_Mo_turn.2.1 140 = .ok (.invokevirtual 146, 3) := by decide +kernel
theorem d_Mo_turn_143 : decode m_Mo_turn.2.1 143 = .ok (.aload_n 0, 1) := by decide +kernel
theorem d_Mo_turn_144 : decode m_Mo_turn.2.1 144 = .ok (.iload_n 2, 1) := by decide +kernel
theorem d_Mo_turn_145 : decode m_Mo_turn.2.1 145 = .ok (.invokevirtual 150, 3) := by decide +kernel
theorem d_Mo_turn_148 : decode m_Mo_turn.2.1 148 = .ok (.ireturn, 1) := by decide +kernel
theorem d_Mo_turn_149 : decode m_Mo_turn.2.1 149 = .ok (.iconst 0, 1) := by decide +kernel
theorem d_Mo_turn_150 : decode m_Mo_turn.2.1 150 = .ok (.istore 5, 2) := by decide +kernel
theorem d_Mo_turn_152 : decode m_Mo_turn.2.1 152 = .ok (.aload_n 0, 1) := by decide +kernel
theorem d_Mo_turn_153 : decode m_Mo_turn.2.1 153 = .ok (.getfield 27, 3) := by decide +kernel
theorem d_Mo_turn_156 : decode m_Mo_turn.2.1 156 = .ok (.iload 5, 2) := by decide +kernel
theorem d_Mo_turn_158 : decode m_Mo_turn.2.1 158 = .ok (.iaload, 1) := by decide +kernel
theorem d_Mo_turn_159 : decode m_Mo_turn.2.1 159 = .ok (.iload_n 2, 1) := by decide +kernel
theorem d_Mo_turn_160 : decode m_Mo_turn.2.1 160 = .ok (.if_icmp .ne 33, 3) := by decide +kernel
theorem d_Mo_turn_163 : decode m_Mo_turn.2.1 163 = .ok (.iload_n 3, 1) := by decide +kernel
theorem d_Mo_turn_164 : decode m_Mo_turn.2.1 164 = .ok (.aload_n 0, 1) := by decide +kernel
theorem d_Mo_turn_165 : decode m_Mo_turn.2.1 165 = .ok (.getfield 30, 3) := by decide +kernel
theorem d_Mo_turn_168 : decode m_Mo_turn.2.1 168 = .ok (.iload 5, 2) := by decide +kernel
theorem d_Mo_turn_170 : decode m_Mo_turn.2.1 170 = .ok (.iaload, 1) := by decide +kernel
theorem d_Mo_turn_171 : decode m_Mo_turn.2.1 171 = .ok (.if_icmp .lt 22, 3) := by decide +kernel
theorem d_Mo_turn_174 : decode m_Mo_turn.2.1 174 = .ok (.iload_n 3, 1) := by decide +kernel
theorem d_Mo_turn_175 : decode m_Mo_turn.2.1 175 = .ok (.aload_n 0, 1) := by decide +kernel
theorem d_Mo_turn_176 : decode m_Mo_turn.2.1 176 = .ok (.getfield 30, 3) := by decide +kernel
theorem d_Mo_turn_179 : decode m_Mo_turn.2.1 179 = .ok (.iload 5, 2) := by decide +kernel
theorem d_Mo_turn_181 : decode m_Mo_turn.2.1 181 = .ok (.iaload, 1) := by decide +kernel
theorem d_Mo_turn_182 : decode m_Mo_turn.2.1 182 = .ok (.aload_n 0, 1) := by decide +kernel
theorem d_Mo_turn_183 : decode m_Mo_turn.2.1 183 = .ok (.getfield 33, 3) := by decide +kernel
theorem d_Mo_turn_186 : decode m_Mo_turn.2.1 186 = .ok (.iload 5, 2) := by decide +kernel
theorem d_Mo_turn_188 : decode m_Mo_turn.2.1 188 = .ok (.iaload, 1) := by decide +kernel
theorem d_Mo_turn_189 : decode m_Mo_turn.2.1 189 = .ok (.iadd, 1) := by decide +kernel
theorem d_Mo_turn_190 : decode m_Mo_turn.2.1 190 = .ok (.if_icmp .lt 9, 3) := by decide +kernel
theorem d_Mo_turn_193 : decode m_Mo_turn.2.1 193 = .ok (.iinc 5 1, 3) := by decide +kernel
theorem d_Mo_turn_196 : decode m_Mo_turn.2.1 196 = .ok (.goto (-44), 3) := by decide +kernel
theorem d_Mo_turn_199 : decode m_Mo_turn.2.1 199 = .ok (.aload_n 0, 1) := by decide +kernel
theorem d_Mo_turn_200 : decode m_Mo_turn.2.1 200 = .ok (.iload_n 2, 1) := by decide +kernel
theorem d_Mo_turn_201 : decode m_Mo_turn.2.1 201 = .ok (.aload_n 0, 1) := by decide +kernel
theorem d_Mo_turn_202 : decode m_Mo_turn.2.1 202 = .ok (.getfield 30, 3) := by decide +kernel
theorem d_Mo_turn_205 : decode m_Mo_turn.2.1 205 = .ok (.iload 5, 2) := by decide +kernel
theorem d_Mo_turn_207 : decode m_Mo_turn.2.1 207 = .ok (.iaload, 1) := by decide +kernel
theorem d_Mo_turn_208 : decode m_Mo_turn.2.1 208 = .ok (.aload_n 0, 1) := by decide +kernel
theorem d_Mo_turn_209 : decode m_Mo_turn.2.1 209 = .ok (.getfield 30, 3) := by decide +kernel
theorem d_Mo_turn_212 : decode m_Mo_turn.2.1 212 = .ok (.iload 5, 2) := by decide +kernel
theorem d_Mo_turn_214 : decode m_Mo_turn.2.1 214 = .ok (.iaload, 1) := by decide +kernel
theorem d_Mo_turn_215 : decode m_Mo_turn.2.1 215 = .ok (.aload_n 0, 1) := by decide +kernel
theorem d_Mo_turn_216 : decode m_Mo_turn.2.1 216 = .ok (.getfield 33, 3) := by decide +kernel
theorem d_Mo_turn_219 : decode m_Mo_turn.2.1 219 = .ok (.iload 5, 2) := by decide +kernel
theorem d_Mo_turn_221 : decode m_Mo_turn.2.1 221 = .ok (.iaload, 1) := by decide +kernel
theorem d_Mo_turn_222 : decode m_Mo_turn.2.1 222 = .ok (.iadd, 1) := by decide +kernel
theorem d_Mo_turn_223 : decode m_Mo_turn.2.1 223 = .ok (.invokevirtual 146, 3) := by decide +kernel
theorem d_Mo_turn_226 : decode m_Mo_turn.2.1 226 = .ok (.aload_n 0, 1) := by decide +kernel
theorem d_Mo_turn_227 : decode m_Mo_turn.2.1 227 = .ok (.iload 5, 2) := by decide +kernel
theorem d_Mo_turn_229 : decode m_Mo_turn.2.1 229 = .ok (.invokevirtual 143, 3) := by decide +kernel
theorem d_Mo_turn_232 : decode m_Mo_turn.2.1 232 = .ok (.ireturn, 1) := by decide +kernel
theorem t_Mo_turn_0 {d : Nat} {st : List Value} {a0 : Nat} {o1 : Option Value} {o2 : Option Value} {o3 : Option Value} {o4 : Option Value} {o5 : Option Value} {fs2 : List Value} {w : qk_W} {nc ns : Nat} {Q : Option Value ⊕ Nat → qk_W → Nat → Nat → Prop}  (hw1 : wo w a0 11 fs2) (hk : 0 < fs2.length) (k : Ev d m_Mo_turn 5 [some (.ref a0), o1, o2, o3, o4, o5] st (qk_set w a0 (.inr (11, fs2.set 0 (.int 0)))) nc ns Q) : Ev d m_Mo_turn 0 [some (.ref a0), o1, o2, o3, o4, o5] st w nc ns Q := by
  refine ev_aload_n d_Mo_turn_0 rfl rfl ?_
  refine ev_iconst 0 d_Mo_turn_1 (by decide) ?_
  exact ev_putf d_Mo_turn_2 fl_Mo_69 rfl hw1.1 hw1.2 hk (qk_fitI _) k
theorem t_Mo_turn_5 {d : Nat} {st : List Value} {o0 : Option Value} {o1 : Option Value} {o2 : Option Value} {o3 : Option Value} {o4 : Option Value} {o5 : Option Value} {w : qk_W} {nc ns : Nat} {Q : Option Value ⊕ Nat → qk_W → Nat → Nat → Prop}  (hc1 : qk_c2 [o0, o1, o2, o3, o4, o5] 1 = true) (k : Ev d m_Mo_turn 7 [o0, some (.int 0), o2, o3, o4, o5] st w nc ns Q) : Ev d m_Mo_turn 5 [o0, o1, o2, o3, o4, o5] st w nc ns Q := by
  refine ev_iconst 0 d_Mo_turn_5 (by decide) ?_
  refine ev_istore_n d_Mo_turn_6 (by decide) hc1 ?_
  exact k
theorem t_Mo_turn_7 {d : Nat} {st : List Value} {a0 : Nat} {x1 : Int32} {o2 : Option Value} {o3 : Option Value} {o4 : Option Value} {o5 : Option Value} {fs2 : List Value} {n4 : Int32} {w : qk_W} {nc ns : Nat} {Q : Option Value ⊕ Nat → qk_W → Nat → Nat → Prop}  (hw1 : wo w a0 11 fs2) (hf3 : fs2[11]? = some (.int n4)) (kt : n4 ≤ x1 → Ev d m_Mo_turn 30 [some (.ref a0), some (.int x1), o2, o3, o4, o5] st w nc ns Q) (kf : ¬ (n4 ≤ x1) → Ev d m_Mo_turn 15 [some (.ref a0), some (.int x1), o2, o3, o4, o5] st w nc ns Q) : Ev d m_Mo_turn 7 [some (.ref a0), some (.int x1), o2, o3, o4, o5] st w nc ns Q := by
  refine ev_iload_n d_Mo_turn_7 rfl ?_
  refine ev_aload_n d_Mo_turn_8 rfl rfl ?_
  refine ev_getf d_Mo_turn_9 fl_Mo_88 hw1.1 hw1.2 hf3 ?_
  exact ev_icmp_ge 30 d_Mo_turn_12 (by decide) kt kf
theorem t_Mo_turn_15 {d : Nat} {st : List Value} {a0 : Nat} {x1 : Int32} {o2 : Option Value} {o3 : Option Value} {o4 : Option Value} {o5 : Option Value} {fs2 : List Value} {c4 : Nat} {n6 : Nat} {f7 : Nat → Int32} {w : qk_W} {nc ns : Nat} {Q : Option Value ⊕ Nat → qk_W → Nat → Nat → Prop}  (hw1 : wo w a0 11 fs2) (hf3 : fs2[10]? = some (.ref c4)) (ha5 : wz w c4 n6 f7) (hi8 : vp_in x1 n6) (kt : ¬ (f7 x1.toNatClampNeg) = 0 → Ev d m_Mo_turn 30 [some (.ref a0), some (.int x1), o2, o3, o4, o5] st w nc ns Q) (kf : (f7 x1.toNatClampNeg) = 0 → Ev d m_Mo_turn 24 [some (.ref a0), some (.int x1), o2, o3, o4, o5] st w nc ns Q) : Ev d m_Mo_turn 15 [some (.ref a0), some (.int x1), o2, o3, o4, o5] st w nc ns Q := by
  refine ev_aload_n d_Mo_turn_15 rfl rfl ?_
  refine ev_getf d_Mo_turn_16 fl_Mo_39 hw1.1 hw1.2 hf3 ?_
  refine ev_iload_n d_Mo_turn_19 rfl ?_
  refine ev_zald d_Mo_turn_20 ha5.1 ha5.2 hi8 ?_
  exact ev_if_ne 30 d_Mo_turn_21 (by decide) kt kf
theorem t_Mo_turn_24 {d : Nat} {st : List Value} {o0 : Option Value} {x1 : Int32} {o2 : Option Value} {o3 : Option Value} {o4 : Option Value} {o5 : Option Value} {w : qk_W} {nc ns : Nat} {Q : Option Value ⊕ Nat → qk_W → Nat → Nat → Prop}  (hc1 : qk_c2 [o0, some (.int x1), o2, o3, o4, o5] 1 = true) (k : Ev d m_Mo_turn 7 [o0, some (.int (x1 + 1)), o2, o3, o4, o5] st w nc ns Q) : Ev d m_Mo_turn 24 [o0, some (.int x1), o2, o3, o4, o5] st w nc ns Q := by
  refine ev_iinc 1 d_Mo_turn_24 (by decide) rfl (by decide) hc1 ?_
  refine ev_goto 7 d_Mo_turn_27 (by decide) ?_
  exact k
theorem t_Mo_turn_30 {d : Nat} {st : List Value} {o0 : Option Value} {o1 : Option Value} {o2 : Option Value} {o3 : Option Value} {o4 : Option Value} {o5 : Option Value} {w : qk_W} {nc ns : Nat} {Q : Option Value ⊕ Nat → qk_W → Nat → Nat → Prop}  (hc1 : qk_c2 [o0, o1, o2, o3, o4, o5] 2 = true) (k : Ev d m_Mo_turn 34 [o0, o1, some (.int 0), some (.int 1), o4, o5] st w nc ns Q) : Ev d m_Mo_turn 30 [o0, o1, o2, o3, o4, o5] st w nc ns Q := by
  refine ev_iconst 0 d_Mo_turn_30 (by decide) ?_
  refine ev_istore_n d_Mo_turn_31 (by decide) hc1 ?_
  refine ev_iconst 1 d_Mo_turn_32 (by decide) ?_
  refine ev_istore_n d_Mo_turn_33 (by decide) rfl ?_
  exact k
theorem t_Mo_turn_34 {d : Nat} {st : List Value} {o0 : Option Value} {o1 : Option Value} {o2 : Option Value} {x3 : Int32} {o4 : Option Value} {o5 : Option Value} {w : qk_W} {nc ns : Nat} {Q : Option Value ⊕ Nat → qk_W → Nat → Nat → Prop}   (kt : (4 : Int32) ≤ x3 → Ev d m_Mo_turn 64 [o0, o1, o2, some (.int x3), o4, o5] st w nc ns Q) (kf : ¬ ((4 : Int32) ≤ x3) → Ev d m_Mo_turn 39 [o0, o1, o2, some (.int x3), o4, o5] st w nc ns Q) : Ev d m_Mo_turn 34 [o0, o1, o2, some (.int x3), o4, o5] st w nc ns Q := by
  refine ev_iload_n d_Mo_turn_34 rfl ?_
  refine ev_iconst 4 d_Mo_turn_35 (by decide) ?_
  exact ev_icmp_ge 64 d_Mo_turn_36 (by decide) kt kf
theorem t_Mo_turn_39 {d : Nat} {st : List Value} {a0 : Nat} {o1 : Option Value} {o2 : Option Value} {x3 : Int32} {o4 : Option Value} {o5 : Option Value} {fsb : List Value} {w : qk_W} {nc ns : Nat} {Q : Option Value ⊕ Nat → qk_W → Nat → Nat → Prop}  (hb : wo w a0 11 fsb) (h8 : (st.map fun v => Value.category v).sum ≤ 8) (k : Ev d m_Mo_leastAsked 0 [some (.ref a0), some (.int x3), none] [] w nc ns (fun r w1 nc1 ns1 => match r with | .inl v => Ev (d + 1) m_Mo_turn 44 [some (.ref a0), o1, o2, some (.int x3), o4, o5] (v.toList ++ st) w1 nc1 ns1 Q | .inr x => Q (.inr x) w1 nc1 ns1)) : Ev (d + 1) m_Mo_turn 39 [some (.ref a0), o1, o2, some (.int x3), o4, o5] st w nc ns Q := by
  refine ev_aload_n d_Mo_turn_39 rfl rfl ?_
  refine ev_iload_n d_Mo_turn_40 rfl ?_
  exact ev_call (M' := m_Mo_leastAsked) (As := [.ref a0, .int x3]) (st := st) d_Mo_turn_41 i_Mo_leastAsked (fun h => absurd h (by decide +kernel)) cw_Mo_136 rfl rfl ⟨hb.1, 11, _, _, hb.2, rfl, rfl⟩ rfl (Nat.le_of_ble_eq_true rfl) h8 k
theorem t_Mo_turn_44 {d : Nat} {st : List Value} {a0 : Nat} {o1 : Option Value} {x2 : Int32} {o3 : Option Value} {o4 : Option Value} {o5 : Option Value} {fsb : List Value} {w : qk_W} {nc ns : Nat} {Q : Option Value ⊕ Nat → qk_W → Nat → Nat → Prop}  (hb : wo w a0 11 fsb) (h8 : (st.map fun v => Value.category v).sum ≤ 8) (k : Ev d m_Mo_leastAsked 0 [some (.ref a0), some (.int x2), none] [] w nc ns (fun r w1 nc1 ns1 => match r with | .inl v => Ev (d + 1) m_Mo_turn 49 [some (.ref a0), o1, some (.int x2), o3, o4, o5] (v.toList ++ st) w1 nc1 ns1 Q | .inr x => Q (.inr x) w1 nc1 ns1)) : Ev (d + 1) m_Mo_turn 44 [some (.ref a0), o1, some (.int x2), o3, o4, o5] st w nc ns Q := by
  refine ev_aload_n d_Mo_turn_44 rfl rfl ?_
  refine ev_iload_n d_Mo_turn_45 rfl ?_
  exact ev_call (M' := m_Mo_leastAsked) (As := [.ref a0, .int x2]) (st := st) d_Mo_turn_46 i_Mo_leastAsked (fun h => absurd h (by decide +kernel)) cw_Mo_136 rfl rfl ⟨hb.1, 11, _, _, hb.2, rfl, rfl⟩ rfl (Nat.le_of_ble_eq_true rfl) h8 k
theorem t_Mo_turn_49 {d : Nat} {st : List Value} {o0 : Option Value} {o1 : Option Value} {o2 : Option Value} {o3 : Option Value} {o4 : Option Value} {o5 : Option Value} {y0 : Int32} {y1 : Int32} {w : qk_W} {nc ns : Nat} {Q : Option Value ⊕ Nat → qk_W → Nat → Nat → Prop}   (kt : y0 ≤ y1 → Ev d m_Mo_turn 56 [o0, o1, o2, o3, o4, o5] st w nc ns Q) (kf : ¬ (y0 ≤ y1) → Ev d m_Mo_turn 52 [o0, o1, o2, o3, o4, o5] st w nc ns Q) : Ev d m_Mo_turn 49 [o0, o1, o2, o3, o4, o5] (.int y0 :: .int y1 :: st) w nc ns Q := by
  exact ev_icmp_ge 56 d_Mo_turn_49 (by decide) kt kf
theorem t_Mo_turn_52 {d : Nat} {st : List Value} {o0 : Option Value} {o1 : Option Value} {o2 : Option Value} {x3 : Int32} {o4 : Option Value} {o5 : Option Value} {w : qk_W} {nc ns : Nat} {Q : Option Value ⊕ Nat → qk_W → Nat → Nat → Prop}  (hc1 : qk_c2 [o0, o1, o2, some (.int x3), o4, o5] 2 = true) (k : Ev d m_Mo_turn 34 [o0, o1, some (.int x3), some (.int (x3 + 1)), o4, o5] st w nc ns Q) : Ev d m_Mo_turn 52 [o0, o1, o2, some (.int x3), o4, o5] st w nc ns Q := by
  refine ev_iload_n d_Mo_turn_52 rfl ?_
  refine ev_goto 57 d_Mo_turn_53 (by decide) ?_
  refine ev_istore_n d_Mo_turn_57 (by decide) hc1 ?_
  refine ev_iinc 1 d_Mo_turn_58 (by decide) rfl (by decide) rfl ?_
  refine ev_goto 34 d_Mo_turn_61 (by decide) ?_
  exact k
theorem t_Mo_turn_56 {d : Nat} {st : List Value} {o0 : Option Value} {o1 : Option Value} {x2 : Int32} {x3 : Int32} {o4 : Option Value} {o5 : Option Value} {w : qk_W} {nc ns : Nat} {Q : Option Value ⊕ Nat → qk_W → Nat → Nat → Prop}  (hc1 : qk_c2 [o0, o1, some (.int x2), some (.int x3), o4, o5] 2 = true) (k : Ev d m_Mo_turn 34 [o0, o1, some (.int x2), some (.int (x3 + 1)), o4, o5] st w nc ns Q) : Ev d m_Mo_turn 56 [o0, o1, some (.int x2), some (.int x3), o4, o5] st w nc ns Q := by
  refine ev_iload_n d_Mo_turn_56 rfl ?_
  refine ev_istore_n d_Mo_turn_57 (by decide) hc1 ?_
  refine ev_iinc 1 d_Mo_turn_58 (by decide) rfl (by decide) rfl ?_
  refine ev_goto 34 d_Mo_turn_61 (by decide) ?_
  exact k
theorem t_Mo_turn_64 {d : Nat} {st : List Value} {a0 : Nat} {o1 : Option Value} {x2 : Int32} {o3 : Option Value} {o4 : Option Value} {o5 : Option Value} {fsb : List Value} {w : qk_W} {nc ns : Nat} {Q : Option Value ⊕ Nat → qk_W → Nat → Nat → Prop}  (hb : wo w a0 11 fsb) (h8 : (st.map fun v => Value.category v).sum ≤ 8) (k : Ev d m_Mo_leastAsked 0 [some (.ref a0), some (.int x2), none] [] w nc ns (fun r w1 nc1 ns1 => match r with | .inl v => Ev (d + 1) m_Mo_turn 69 [some (.ref a0), o1, some (.int x2), o3, o4, o5] (v.toList ++ st) w1 nc1 ns1 Q | .inr x => Q (.inr x) w1 nc1 ns1)) : Ev (d + 1) m_Mo_turn 64 [some (.ref a0), o1, some (.int x2), o3, o4, o5] st w nc ns Q := by
  refine ev_aload_n d_Mo_turn_64 rfl rfl ?_
  refine ev_iload_n d_Mo_turn_65 rfl ?_
  exact ev_call (M' := m_Mo_leastAsked) (As := [.ref a0, .int x2]) (st := st) d_Mo_turn_66 i_Mo_leastAsked (fun h => absurd h (by decide +kernel)) cw_Mo_136 rfl rfl ⟨hb.1, 11, _, _, hb.2, rfl, rfl⟩ rfl (Nat.le_of_ble_eq_true rfl) h8 k
theorem t_Mo_turn_69 {d : Nat} {st : List Value} {a0 : Nat} {x1 : Int32} {o2 : Option Value} {o3 : Option Value} {o4 : Option Value} {o5 : Option Value} {y0 : Int32} {fs3 : List Value} {n5 : Int32} {w : qk_W} {nc ns : Nat} {Q : Option Value ⊕ Nat → qk_W → Nat → Nat → Prop}  (hc1 : qk_c2 [some (.ref a0), some (.int x1), o2, o3, o4, o5] 3 = true) (hw2 : wo w a0 11 fs3) (hf4 : fs3[11]? = some (.int n5)) (kt : n5 ≤ x1 → Ev d m_Mo_turn 109 [some (.ref a0), some (.int x1), o2, some (.int y0), o4, o5] st w nc ns Q) (kf : ¬ (n5 ≤ x1) → Ev d m_Mo_turn 78 [some (.ref a0), some (.int x1), o2, some (.int y0), o4, o5] st w nc ns Q) : Ev d m_Mo_turn 69 [some (.ref a0), some (.int x1), o2, o3, o4, o5] (.int y0 :: st) w nc ns Q := by
  refine ev_istore_n d_Mo_turn_69 (by decide) hc1 ?_
  refine ev_iload_n d_Mo_turn_70 rfl ?_
  refine ev_aload_n d_Mo_turn_71 rfl rfl ?_
  refine ev_getf d_Mo_turn_72 fl_Mo_88 hw2.1 hw2.2 hf4 ?_
  exact ev_icmp_ge 109 d_Mo_turn_75 (by decide) kt kf
theorem t_Mo_turn_78 {d : Nat} {st : List Value} {o0 : Option Value} {o1 : Option Value} {o2 : Option Value} {x3 : Int32} {o4 : Option Value} {o5 : Option Value} {w : qk_W} {nc ns : Nat} {Q : Option Value ⊕ Nat → qk_W → Nat → Nat → Prop}   (kt : x3 = (32768 : Int32) → Ev d m_Mo_turn 91 [o0, o1, o2, some (.int x3), o4, o5] st w nc ns Q) (kf : ¬ (x3 = (32768 : Int32)) → Ev d m_Mo_turn 84 [o0, o1, o2, some (.int x3), o4, o5] st w nc ns Q) : Ev d m_Mo_turn 78 [o0, o1, o2, some (.int x3), o4, o5] st w nc ns Q := by
  refine ev_iload_n d_Mo_turn_78 rfl ?_
  refine ev_ldc 32768 d_Mo_turn_79 lc_Mo_46 ?_
  exact ev_icmp_eq 91 d_Mo_turn_81 (by decide) kt kf
theorem t_Mo_turn_84 {d : Nat} {st : List Value} {a0 : Nat} {o1 : Option Value} {o2 : Option Value} {o3 : Option Value} {o4 : Option Value} {o5 : Option Value} {fs2 : List Value} {n4 : Int32} {w : qk_W} {nc ns : Nat} {Q : Option Value ⊕ Nat → qk_W → Nat → Nat → Prop}  (hw1 : wo w a0 11 fs2) (hf3 : fs2[13]? = some (.int n4)) (kt : ¬ n4 = 0 → Ev d m_Mo_turn 109 [some (.ref a0), o1, o2, o3, o4, o5] st w nc ns Q) (kf : n4 = 0 → Ev d m_Mo_turn 91 [some (.ref a0), o1, o2, o3, o4, o5] st w nc ns Q) : Ev d m_Mo_turn 84 [some (.ref a0), o1, o2, o3, o4, o5] st w nc ns Q := by
  refine ev_aload_n d_Mo_turn_84 rfl rfl ?_
  refine ev_getf d_Mo_turn_85 fl_Mo_139 hw1.1 hw1.2 hf3 ?_
  exact ev_if_ne 109 d_Mo_turn_88 (by decide) kt kf
theorem t_Mo_turn_91 {d : Nat} {st : List Value} {a0 : Nat} {x1 : Int32} {o2 : Option Value} {o3 : Option Value} {o4 : Option Value} {o5 : Option Value} {fs2 : List Value} {c4 : Nat} {n6 : Nat} {f7 : Nat → Int32} {w : qk_W} {nc ns : Nat} {Q : Option Value ⊕ Nat → qk_W → Nat → Nat → Prop}  (hw1 : wo w a0 11 fs2) (hf3 : fs2[10]? = some (.ref c4)) (ha5 : wz w c4 n6 f7) (hi : vp_in x1 n6) (k : Ev d m_Mo_turn 98 [some (.ref a0), some (.int x1), o2, o3, o4, o5] st (qk_set w c4 (.inl (.boolean, n6, .inl (upd f7 x1.toNatClampNeg 0)))) nc ns Q) : Ev d m_Mo_turn 91 [some (.ref a0), some (.int x1), o2, o3, o4, o5] st w nc ns Q := by
  refine ev_aload_n d_Mo_turn_91 rfl rfl ?_
  refine ev_getf d_Mo_turn_92 fl_Mo_39 hw1.1 hw1.2 hf3 ?_
  refine ev_iload_n d_Mo_turn_95 rfl ?_
  refine ev_iconst 0 d_Mo_turn_96 (by decide) ?_
  exact ev_zast d_Mo_turn_97 ha5.1 ha5.2 hi rfl k
theorem t_Mo_turn_98 {d : Nat} {st : List Value} {a0 : Nat} {o1 : Option Value} {o2 : Option Value} {o3 : Option Value} {o4 : Option Value} {o5 : Option Value} {fs2 : List Value} {w : qk_W} {nc ns : Nat} {Q : Option Value ⊕ Nat → qk_W → Nat → Nat → Prop}  (hw1 : wo w a0 11 fs2) (hk : 13 < fs2.length) (k : Ev d m_Mo_turn 103 [some (.ref a0), o1, o2, o3, o4, o5] st (qk_set w a0 (.inr (11, fs2.set 13 (.int 1)))) nc ns Q) : Ev d m_Mo_turn 98 [some (.ref a0), o1, o2, o3, o4, o5] st w nc ns Q := by
  refine ev_aload_n d_Mo_turn_98 rfl rfl ?_
  refine ev_iconst 1 d_Mo_turn_99 (by decide) ?_
  exact ev_putf d_Mo_turn_100 fl_Mo_139 rfl hw1.1 hw1.2 hk rfl k
theorem t_Mo_turn_103 {d : Nat} {st : List Value} {a0 : Nat} {x1 : Int32} {o2 : Option Value} {o3 : Option Value} {o4 : Option Value} {o5 : Option Value} {fsb : List Value} {w : qk_W} {nc ns : Nat} {Q : Option Value ⊕ Nat → qk_W → Nat → Nat → Prop}  (hb : wo w a0 11 fsb) (h8 : (st.map fun v => Value.category v).sum ≤ 8) (k : Ev d m_Mo_send 0 [some (.ref a0), some (.int x1), none, none, none, none, none, none, none] [] w nc ns (fun r w1 nc1 ns1 => match r with | .inl v => Ev (d + 1) m_Mo_turn 108 [some (.ref a0), some (.int x1), o2, o3, o4, o5] (v.toList ++ st) w1 nc1 ns1 Q | .inr x => Q (.inr x) w1 nc1 ns1)) : Ev (d + 1) m_Mo_turn 103 [some (.ref a0), some (.int x1), o2, o3, o4, o5] st w nc ns Q := by
  refine ev_aload_n d_Mo_turn_103 rfl rfl ?_
  refine ev_iload_n d_Mo_turn_104 rfl ?_
  exact ev_call (M' := m_Mo_send) (As := [.ref a0, .int x1]) (st := st) d_Mo_turn_105 i_Mo_send (fun h => absurd h (by decide +kernel)) cw_Mo_143 rfl rfl ⟨hb.1, 11, _, _, hb.2, rfl, rfl⟩ rfl (Nat.le_of_ble_eq_true rfl) h8 k
theorem t_Mo_turn_108 {d : Nat} {o0 : Option Value} {o1 : Option Value} {o2 : Option Value} {o3 : Option Value} {o4 : Option Value} {o5 : Option Value} {y0 : Int32} {w : qk_W} {nc ns : Nat} {Q : Option Value ⊕ Nat → qk_W → Nat → Nat → Prop}   (hq : Q (.inl (some (.int y0))) w nc ns) : Ev d m_Mo_turn 108 [o0, o1, o2, o3, o4, o5] [.int y0] w nc ns Q := by
  exact ev_iret d_Mo_turn_108 rfl rfl hq
theorem t_Mo_turn_109 {d : Nat} {st : List Value} {o0 : Option Value} {o1 : Option Value} {o2 : Option Value} {x3 : Int32} {o4 : Option Value} {o5 : Option Value} {w : qk_W} {nc ns : Nat} {Q : Option Value ⊕ Nat → qk_W → Nat → Nat → Prop}   (kt : ¬ x3 = (32768 : Int32) → Ev d m_Mo_turn 117 [o0, o1, o2, some (.int x3), o4, o5] st w nc ns Q) (kf : x3 = (32768 : Int32) → Ev d m_Mo_turn 115 [o0, o1, o2, some (.int x3), o4, o5] st w nc ns Q) : Ev d m_Mo_turn 109 [o0, o1, o2, some (.int x3), o4, o5] st w nc ns Q := by
  refine ev_iload_n d_Mo_turn_109 rfl ?_
  refine ev_ldc 32768 d_Mo_turn_110 lc_Mo_46 ?_
  exact ev_icmp_ne 117 d_Mo_turn_112 (by decide) kt kf
theorem t_Mo_turn_115 {d : Nat} {o0 : Option Value} {o1 : Option Value} {o2 : Option Value} {o3 : Option Value} {o4 : Option Value} {o5 : Option Value} {w : qk_W} {nc ns : Nat} {Q : Option Value ⊕ Nat → qk_W → Nat → Nat → Prop}   (hq : Q (.inl (some (.int (-1)))) w nc ns) : Ev d m_Mo_turn 115 [o0, o1, o2, o3, o4, o5] [] w nc ns Q := by
  refine ev_iconst (-1) d_Mo_turn_115 (by decide) ?_
  exact ev_iret d_Mo_turn_116 rfl rfl hq
theorem t_Mo_turn_117 {d : Nat} {st : List Value} {a0 : Nat} {o1 : Option Value} {o2 : Option Value} {o3 : Option Value} {o4 : Option Value} {o5 : Option Value} {fs2 : List Value} {w : qk_W} {nc ns : Nat} {Q : Option Value ⊕ Nat → qk_W → Nat → Nat → Prop}  (hw1 : wo w a0 11 fs2) (hk : 13 < fs2.length) (k : Ev d m_Mo_turn 122 [some (.ref a0), o1, o2, o3, o4, o5] st (qk_set w a0 (.inr (11, fs2.set 13 (.int 0)))) nc ns Q) : Ev d m_Mo_turn 117 [some (.ref a0), o1, o2, o3, o4, o5] st w nc ns Q := by
  refine ev_aload_n d_Mo_turn_117 rfl rfl ?_
  refine ev_iconst 0 d_Mo_turn_118 (by decide) ?_
  exact ev_putf d_Mo_turn_119 fl_Mo_139 rfl hw1.1 hw1.2 hk rfl k
theorem t_Mo_turn_122 {d : Nat} {st : List Value} {a0 : Nat} {o1 : Option Value} {x2 : Int32} {o3 : Option Value} {o4 : Option Value} {o5 : Option Value} {fsb : List Value} {w : qk_W} {nc ns : Nat} {Q : Option Value ⊕ Nat → qk_W → Nat → Nat → Prop}  (hb : wo w a0 11 fsb) (h8 : (st.map fun v => Value.category v).sum ≤ 8) (k : Ev d m_Mo_oldest 0 [some (.ref a0), some (.int x2), none] [] w nc ns (fun r w1 nc1 ns1 => match r with | .inl v => Ev (d + 1) m_Mo_turn 127 [some (.ref a0), o1, some (.int x2), o3, o4, o5] (v.toList ++ st) w1 nc1 ns1 Q | .inr x => Q (.inr x) w1 nc1 ns1)) : Ev (d + 1) m_Mo_turn 122 [some (.ref a0), o1, some (.int x2), o3, o4, o5] st w nc ns Q := by
  refine ev_aload_n d_Mo_turn_122 rfl rfl ?_
  refine ev_iload_n d_Mo_turn_123 rfl ?_
  exact ev_call (M' := m_Mo_oldest) (As := [.ref a0, .int x2]) (st := st) d_Mo_turn_124 i_Mo_oldest (fun h => absurd h (by decide +kernel)) cw_Mo_129 rfl rfl ⟨hb.1, 11, _, _, hb.2, rfl, rfl⟩ rfl (Nat.le_of_ble_eq_true rfl) h8 k
theorem t_Mo_turn_127 {d : Nat} {st : List Value} {o0 : Option Value} {o1 : Option Value} {o2 : Option Value} {x3 : Int32} {o4 : Option Value} {o5 : Option Value} {y0 : Int32} {w : qk_W} {nc ns : Nat} {Q : Option Value ⊕ Nat → qk_W → Nat → Nat → Prop}  (hc1 : qk_c2 [o0, o1, o2, some (.int x3), o4, o5] 4 = true) (kt : y0 ≤ x3 → Ev d m_Mo_turn 149 [o0, o1, o2, some (.int x3), some (.int y0), o5] st w nc ns Q) (kf : ¬ (y0 ≤ x3) → Ev d m_Mo_turn 135 [o0, o1, o2, some (.int x3), some (.int y0), o5] st w nc ns Q) : Ev d m_Mo_turn 127 [o0, o1, o2, some (.int x3), o4, o5] (.int y0 :: st) w nc ns Q := by
  refine ev_istore d_Mo_turn_127 (by decide) hc1 ?_
  refine ev_iload_n d_Mo_turn_129 rfl ?_
  refine ev_iload d_Mo_turn_130 rfl ?_
  exact ev_icmp_ge 149 d_Mo_turn_132 (by decide) kt kf
theorem t_Mo_turn_135 {d : Nat} {st : List Value} {a0 : Nat} {o1 : Option Value} {x2 : Int32} {o3 : Option Value} {x4 : Int32} {o5 : Option Value} {fsb : List Value} {w : qk_W} {nc ns : Nat} {Q : Option Value ⊕ Nat → qk_W → Nat → Nat → Prop}  (hb : wo w a0 11 fsb) (h8 : (st.map fun v => Value.category v).sum ≤ 8) (k : Ev d m_Mo_unask 0 [some (.ref a0), some (.int x2), some (.int 0), some (.int x4), none] [] w nc ns (fun r w1 nc1 ns1 => match r with | .inl v => Ev (d + 1) m_Mo_turn 143 [some (.ref a0), o1, some (.int x2), o3, some (.int x4), o5] (v.toList ++ st) w1 nc1 ns1 Q | .inr x => Q (.inr x) w1 nc1 ns1)) : Ev (d + 1) m_Mo_turn 135 [some (.ref a0), o1, some (.int x2), o3, some (.int x4), o5] st w nc ns Q := by
  refine ev_aload_n d_Mo_turn_135 rfl rfl ?_
  refine ev_iload_n d_Mo_turn_136 rfl ?_
  refine ev_iconst 0 d_Mo_turn_137 (by decide) ?_
  refine ev_iload d_Mo_turn_138 rfl ?_
  exact ev_call (M' := m_Mo_unask) (As := [.ref a0, .int x2, .int 0, .int x4]) (st := st) d_Mo_turn_140 i_Mo_unask (fun h => absurd h (by decide +kernel)) cw_Mo_146 rfl rfl ⟨hb.1, 11, _, _, hb.2, rfl, rfl⟩ rfl (Nat.le_of_ble_eq_true rfl) h8 k
theorem t_Mo_turn_143 {d : Nat} {st : List Value} {a0 : Nat} {o1 : Option Value} {x2 : Int32} {o3 : Option Value} {o4 : Option Value} {o5 : Option Value} {fsb : List Value} {w : qk_W} {nc ns : Nat} {Q : Option Value ⊕ Nat → qk_W → Nat → Nat → Prop}  (hb : wo w a0 11 fsb) (h8 : (st.map fun v => Value.category v).sum ≤ 8) (k : Ev d m_Mo_sendEmpty 0 [some (.ref a0), some (.int x2)] [] w nc ns (fun r w1 nc1 ns1 => match r with | .inl v => Ev (d + 1) m_Mo_turn 148 [some (.ref a0), o1, some (.int x2), o3, o4, o5] (v.toList ++ st) w1 nc1 ns1 Q | .inr x => Q (.inr x) w1 nc1 ns1)) : Ev (d + 1) m_Mo_turn 143 [some (.ref a0), o1, some (.int x2), o3, o4, o5] st w nc ns Q := by
  refine ev_aload_n d_Mo_turn_143 rfl rfl ?_
  refine ev_iload_n d_Mo_turn_144 rfl ?_
  exact ev_call (M' := m_Mo_sendEmpty) (As := [.ref a0, .int x2]) (st := st) d_Mo_turn_145 i_Mo_sendEmpty (fun h => absurd h (by decide +kernel)) cw_Mo_150 rfl rfl ⟨hb.1, 11, _, _, hb.2, rfl, rfl⟩ rfl (Nat.le_of_ble_eq_true rfl) h8 k
theorem t_Mo_turn_148 {d : Nat} {o0 : Option Value} {o1 : Option Value} {o2 : Option Value} {o3 : Option Value} {o4 : Option Value} {o5 : Option Value} {y0 : Int32} {w : qk_W} {nc ns : Nat} {Q : Option Value ⊕ Nat → qk_W → Nat → Nat → Prop}   (hq : Q (.inl (some (.int y0))) w nc ns) : Ev d m_Mo_turn 148 [o0, o1, o2, o3, o4, o5] [.int y0] w nc ns Q := by
  exact ev_iret d_Mo_turn_148 rfl rfl hq
theorem t_Mo_turn_149 {d : Nat} {st : List Value} {o0 : Option Value} {o1 : Option Value} {o2 : Option Value} {o3 : Option Value} {o4 : Option Value} {o5 : Option Value} {w : qk_W} {nc ns : Nat} {Q : Option Value ⊕ Nat → qk_W → Nat → Nat → Prop}  (hc1 : qk_c2 [o0, o1, o2, o3, o4, o5] 5 = true) (k : Ev d m_Mo_turn 152 [o0, o1, o2, o3, o4, some (.int 0)] st w nc ns Q) : Ev d m_Mo_turn 149 [o0, o1, o2, o3, o4, o5] st w nc ns Q := by
  refine ev_iconst 0 d_Mo_turn_149 (by decide) ?_
  refine ev_istore d_Mo_turn_150 (by decide) hc1 ?_
  exact k
theorem t_Mo_turn_152 {d : Nat} {st : List Value} {a0 : Nat} {o1 : Option Value} {x2 : Int32} {o3 : Option Value} {o4 : Option Value} {x5 : Int32} {fs2 : List Value} {c4 : Nat} {n6 : Nat} {f7 : Nat → Int32} {w : qk_W} {nc ns : Nat} {Q : Option Value ⊕ Nat → qk_W → Nat → Nat → Prop}  (hw1 : wo w a0 11 fs2) (hf3 : fs2[6]? = some (.ref c4)) (ha5 : wi w c4 n6 f7) (hi8 : vp_in x5 n6) (kt : ¬ (f7 x5.toNatClampNeg) = x2 → Ev d m_Mo_turn 193 [some (.ref a0), o1, some (.int x2), o3, o4, some (.int x5)] st w nc ns Q) (kf : (f7 x5.toNatClampNeg) = x2 → Ev d m_Mo_turn 163 [some (.ref a0), o1, some (.int x2), o3, o4, some (.int x5)] st w nc ns Q) : Ev d m_Mo_turn 152 [some (.ref a0), o1, some (.int x2), o3, o4, some (.int x5)] st w nc ns Q := by
  refine ev_aload_n d_Mo_turn_152 rfl rfl ?_
  refine ev_getf d_Mo_turn_153 fl_Mo_27 hw1.1 hw1.2 hf3 ?_
  refine ev_iload d_Mo_turn_156 rfl ?_
  refine ev_iald d_Mo_turn_158 ha5 hi8 ?_
  refine ev_iload_n d_Mo_turn_159 rfl ?_
  exact ev_icmp_ne 193 d_Mo_turn_160 (by decide) kt kf
theorem t_Mo_turn_163 {d : Nat} {st : List Value} {a0 : Nat} {o1 : Option Value} {o2 : Option Value} {x3 : Int32} {o4 : Option Value} {x5 : Int32} {fs2 : List Value} {c4 : Nat} {n6 : Nat} {f7 : Nat → Int32} {w : qk_W} {nc ns : Nat} {Q : Option Value ⊕ Nat → qk_W → Nat → Nat → Prop}  (hw1 : wo w a0 11 fs2) (hf3 : fs2[7]? = some (.ref c4)) (ha5 : wi w c4 n6 f7) (hi8 : vp_in x5 n6) (kt : x3 < (f7 x5.toNatClampNeg) → Ev d m_Mo_turn 193 [some (.ref a0), o1, o2, some (.int x3), o4, some (.int x5)] st w nc ns Q) (kf : ¬ (x3 < (f7 x5.toNatClampNeg)) → Ev d m_Mo_turn 174 [some (.ref a0), o1, o2, some (.int x3), o4, some (.int x5)] st w nc ns Q) : Ev d m_Mo_turn 163 [some (.ref a0), o1, o2, some (.int x3), o4, some (.int x5)] st w nc ns Q := by
  refine ev_iload_n d_Mo_turn_163 rfl ?_
  refine ev_aload_n d_Mo_turn_164 rfl rfl ?_
  refine ev_getf d_Mo_turn_165 fl_Mo_30 hw1.1 hw1.2 hf3 ?_
  refine ev_iload d_Mo_turn_168 rfl ?_
  refine ev_iald d_Mo_turn_170 ha5 hi8 ?_
  exact ev_icmp_lt 193 d_Mo_turn_171 (by decide) kt kf
theorem t_Mo_turn_174 {d : Nat} {st : List Value} {a0 : Nat} {o1 : Option Value} {o2 : Option Value} {x3 : Int32} {o4 : Option Value} {x5 : Int32} {fs2 : List Value} {c4 : Nat} {n6 : Nat} {f7 : Nat → Int32} {c12 : Nat} {n14 : Nat} {f15 : Nat → Int32} {w : qk_W} {nc ns : Nat} {Q : Option Value ⊕ Nat → qk_W → Nat → Nat → Prop}  (hw1 : wo w a0 11 fs2) (hf3 : fs2[7]? = some (.ref c4)) (ha5 : wi w c4 n6 f7) (hi8 : vp_in x5 n6) (hf11 : fs2[8]? = some (.ref c12)) (ha13 : wi w c12 n14 f15) (hi16 : vp_in x5 n14) (kt : x3 < ((f7 x5.toNatClampNeg) + (f15 x5.toNatClampNeg)) → Ev d m_Mo_turn 199 [some (.ref a0), o1, o2, some (.int x3), o4, some (.int x5)] st w nc ns Q) (kf : ¬ (x3 < ((f7 x5.toNatClampNeg) + (f15 x5.toNatClampNeg))) → Ev d m_Mo_turn 193 [some (.ref a0), o1, o2, some (.int x3), o4, some (.int x5)] st w nc ns Q) : Ev d m_Mo_turn 174 [some (.ref a0), o1, o2, some (.int x3), o4, some (.int x5)] st w nc ns Q := by
  refine ev_iload_n d_Mo_turn_174 rfl ?_
  refine ev_aload_n d_Mo_turn_175 rfl rfl ?_
  refine ev_getf d_Mo_turn_176 fl_Mo_30 hw1.1 hw1.2 hf3 ?_
  refine ev_iload d_Mo_turn_179 rfl ?_
  refine ev_iald d_Mo_turn_181 ha5 hi8 ?_
  refine ev_aload_n d_Mo_turn_182 rfl rfl ?_
  refine ev_getf d_Mo_turn_183 fl_Mo_33 hw1.1 hw1.2 hf11 ?_
  refine ev_iload d_Mo_turn_186 rfl ?_
  refine ev_iald d_Mo_turn_188 ha13 hi16 ?_
  refine ev_iadd d_Mo_turn_189 ?_
  exact ev_icmp_lt 199 d_Mo_turn_190 (by decide) kt kf
theorem t_Mo_turn_193 {d : Nat} {st : List Value} {o0 : Option Value} {o1 : Option Value} {o2 : Option Value} {o3 : Option Value} {o4 : Option Value} {x5 : Int32} {w : qk_W} {nc ns : Nat} {Q : Option Value ⊕ Nat → qk_W → Nat → Nat → Prop}  (hc1 : qk_c2 [o0, o1, o2, o3, o4, some (.int x5)] 5 = true) (k : Ev d m_Mo_turn 152 [o0, o1, o2, o3, o4, some (.int (x5 + 1))] st w nc ns Q) : Ev d m_Mo_turn 193 [o0, o1, o2, o3, o4, some (.int x5)] st w nc ns Q := by
  refine ev_iinc 1 d_Mo_turn_193 (by decide) rfl (by decide) hc1 ?_
  refine ev_goto 152 d_Mo_turn_196 (by decide) ?_
  exact k
theorem t_Mo_turn_199 {d : Nat} {st : List Value} {a0 : Nat} {o1 : Option Value} {x2 : Int32} {o3 : Option Value} {o4 : Option Value} {x5 : Int32} {fs2 : List Value} {c4 : Nat} {n6 : Nat} {f7 : Nat → Int32} {c15 : Nat} {n17 : Nat} {f18 : Nat → Int32} {w : qk_W} {nc ns : Nat} {Q : Option Value ⊕ Nat → qk_W → Nat → Nat → Prop}  (hw1 : wo w a0 11 fs2) (hf3 : fs2[7]? = some (.ref c4)) (ha5 : wi w c4 n6 f7) (hi8 : vp_in x5 n6) (hf14 : fs2[8]? = some (.ref c15)) (ha16 : wi w c15 n17 f18) (hi19 : vp_in x5 n17) (h8 : (st.map fun v => Value.category v).sum ≤ 8) (k : Ev d m_Mo_unask 0 [some (.ref a0), some (.int x2), some (.int (f7 x5.toNatClampNeg)), some (.int ((f7 x5.toNatClampNeg) + (f18 x5.toNatClampNeg))), none] [] w nc ns (fun r w1 nc1 ns1 => match r with | .inl v => Ev (d + 1) m_Mo_turn 226 [some (.ref a0), o1, some (.int x2), o3, o4, some (.int x5)] (v.toList ++ st) w1 nc1 ns1 Q | .inr x => Q (.inr x) w1 nc1 ns1)) : Ev (d + 1) m_Mo_turn 199 [some (.ref a0), o1, some (.int x2), o3, o4, some (.int x5)] st w nc ns Q := by
  refine ev_aload_n d_Mo_turn_199 rfl rfl ?_
  refine ev_iload_n d_Mo_turn_200 rfl ?_
  refine ev_aload_n d_Mo_turn_201 rfl rfl ?_
  refine ev_getf d_Mo_turn_202 fl_Mo_30 hw1.1 hw1.2 hf3 ?_
  refine ev_iload d_Mo_turn_205 rfl ?_
  refine ev_iald d_Mo_turn_207 ha5 hi8 ?_
  refine ev_aload_n d_Mo_turn_208 rfl rfl ?_
  refine ev_getf d_Mo_turn_209 fl_Mo_30 hw1.1 hw1.2 hf3 ?_
  refine ev_iload d_Mo_turn_212 rfl ?_
  refine ev_iald d_Mo_turn_214 ha5 hi8 ?_
  refine ev_aload_n d_Mo_turn_215 rfl rfl ?_
  refine ev_getf d_Mo_turn_216 fl_Mo_33 hw1.1 hw1.2 hf14 ?_
  refine ev_iload d_Mo_turn_219 rfl ?_
  refine ev_iald d_Mo_turn_221 ha16 hi19 ?_
  refine ev_iadd d_Mo_turn_222 ?_
  exact ev_call (M' := m_Mo_unask) (As := [.ref a0, .int x2, .int (f7 x5.toNatClampNeg), .int ((f7 x5.toNatClampNeg) + (f18 x5.toNatClampNeg))]) (st := st) d_Mo_turn_223 i_Mo_unask (fun h => absurd h (by decide +kernel)) cw_Mo_146 rfl rfl ⟨hw1.1, 11, _, _, hw1.2, rfl, rfl⟩ rfl (Nat.le_of_ble_eq_true rfl) h8 k
theorem t_Mo_turn_226 {d : Nat} {st : List Value} {a0 : Nat} {o1 : Option Value} {o2 : Option Value} {o3 : Option Value} {o4 : Option Value} {x5 : Int32} {fsb : List Value} {w : qk_W} {nc ns : Nat} {Q : Option Value ⊕ Nat → qk_W → Nat → Nat → Prop}  (hb : wo w a0 11 fsb) (h8 : (st.map fun v => Value.category v).sum ≤ 8) (k : Ev d m_Mo_send 0 [some (.ref a0), some (.int x5), none, none, none, none, none, none, none] [] w nc ns (fun r w1 nc1 ns1 => match r with | .inl v => Ev (d + 1) m_Mo_turn 232 [some (.ref a0), o1, o2, o3, o4, some (.int x5)] (v.toList ++ st) w1 nc1 ns1 Q | .inr x => Q (.inr x) w1 nc1 ns1)) : Ev (d + 1) m_Mo_turn 226 [some (.ref a0), o1, o2, o3, o4, some (.int x5)] st w nc ns Q := by
  refine ev_aload_n d_Mo_turn_226 rfl rfl ?_
  refine ev_iload d_Mo_turn_227 rfl ?_
  exact ev_call (M' := m_Mo_send) (As := [.ref a0, .int x5]) (st := st) d_Mo_turn_229 i_Mo_send (fun h => absurd h (by decide +kernel)) cw_Mo_143 rfl rfl ⟨hb.1, 11, _, _, hb.2, rfl, rfl⟩ rfl (Nat.le_of_ble_eq_true rfl) h8 k
theorem t_Mo_turn_232 {d : Nat} {o0 : Option Value} {o1 : Option Value} {o2 : Option Value} {o3 : Option Value} {o4 : Option Value} {o5 : Option Value} {y0 : Int32} {w : qk_W} {nc ns : Nat} {Q : Option Value ⊕ Nat → qk_W → Nat → Nat → Prop}   (hq : Q (.inl (some (.int y0))) w nc ns) : Ev d m_Mo_turn 232 [o0, o1, o2, o3, o4, o5] [.int y0] w nc ns Q := by
  exact ev_iret d_Mo_turn_232 rfl rfl hq
/-! Mo_leastAsked -/
theorem d_Mo_leastAsked_0 : decode m_Mo_leastAsked.2.1 0 = .ok (.iconst 0, 1) := by decide +kernel
theorem d_Mo_leastAsked_1 : decode m_Mo_leastAsked.2.1 1 = .ok (.istore_n 2, 1) := by decide +kernel
theorem d_Mo_leastAsked_2 : decode m_Mo_leastAsked.2.1 2 = .ok (.iload_n 2, 1) := by decide +kernel
theorem d_Mo_leastAsked_3 : decode m_Mo_leastAsked.2.1 3 = .ok (.ldc 46, 2) := by decide +kernel
theorem d_Mo_leastAsked_5 : decode m_Mo_leastAsked.2.1 5 = .ok (.if_icmp .ge 23, 3) := by decide +kernel
theorem d_Mo_leastAsked_8 : decode m_Mo_leastAsked.2.1 8 = .ok (.aload_n 0, 1) := by decide +kernel
theorem d_Mo_leastAsked_9 : decode m_Mo_leastAsked.2.1 9 = .ok (.getfield 43, 3) := by decide +kernel
theorem d_Mo_leastAsked_12 : decode m_Mo_leastAsked.2.1 12 = .ok (.iload_n 1, 1) := by decide +kernel
theorem d_Mo_leastAsked_13 : decode m_Mo_leastAsked.2.1 13 = .ok (.ldc 46, 2) := by decide +kernel
theorem d_Mo_leastAsked_15 : decode m_Mo_leastAsked.2.1 15 = .ok (.imul, 1) := by decide +kernel
theorem d_Mo_leastAsked_16 : decode m_Mo_leastAsked.2.1 16 = .ok (.iload_n 2, 1) := by decide +kernel
theorem d_Mo_leastAsked_17 : decode m_Mo_leastAsked.2.1 17 = .ok (.iadd, 1) := by decide +kernel
theorem d_Mo_leastAsked_18 : decode m_Mo_leastAsked.2.1 18 = .ok (.baload, 1) := by decide +kernel
theorem d_Mo_leastAsked_19 : decode m_Mo_leastAsked.2.1 19 = .ok (.ifCond .ne 9, 3) := by decide +kernel
theorem d_Mo_leastAsked_22 : decode m_Mo_leastAsked.2.1 22 = .ok (.iinc 2 1, 3) := by decide +kernel
theorem d_Mo_leastAsked_25 : decode m_Mo_leastAsked.2.1 25 = .ok (.goto (-23), 3) := by decide +kernel
theorem d_Mo_leastAsked_28 : decode m_Mo_leastAsked.2.1 28 = .ok (.iload_n 2, 1) := by decide +kernel
theorem d_Mo_leastAsked_29 : decode m_Mo_leastAsked.2.1 29 = .ok (.ireturn, 1) := by decide +kernel
theorem t_Mo_leastAsked_0 {d : Nat} {st : List Value} {o0 : Option Value} {o1 : Option Value} {o2 : Option Value} {w : qk_W} {nc ns : Nat} {Q : Option Value ⊕ Nat → qk_W → Nat → Nat → Prop}  (hc1 : qk_c2 [o0, o1, o2] 2 = true) (k : Ev d m_Mo_leastAsked 2 [o0, o1, some (.int 0)] st w nc ns Q) : Ev d m_Mo_leastAsked 0 [o0, o1, o2] st w nc ns Q := by
  refine ev_iconst 0 d_Mo_leastAsked_0 (by decide) ?_
  refine ev_istore_n d_Mo_leastAsked_1 (by decide) hc1 ?_
  exact k
theorem t_Mo_leastAsked_2 {d : Nat} {st : List Value} {o0 : Option Value} {o1 : Option Value} {x2 : Int32} {w : qk_W} {nc ns : Nat} {Q : Option Value ⊕ Nat → qk_W → Nat → Nat → Prop}   (kt : (32768 : Int32) ≤ x2 → Ev d m_Mo_leastAsked 28 [o0, o1, some (.int x2)] st w nc ns Q) (kf : ¬ ((32768 : Int32) ≤ x2) → Ev d m_Mo_leastAsked 8 [o0, o1, some (.int x2)] st w nc ns Q) : Ev d m_Mo_leastAsked 2 [o0, o1, some (.int x2)] st w nc ns Q := by
  refine ev_iload_n d_Mo_leastAsked_2 rfl ?_
  refine ev_ldc 32768 d_Mo_leastAsked_3 lc_Mo_46 ?_
  exact ev_icmp_ge 28 d_Mo_leastAsked_5 (by decide) kt kf
theorem t_Mo_leastAsked_8 {d : Nat} {st : List Value} {a0 : Nat} {x1 : Int32} {x2 : Int32} {fs2 : List Value} {c4 : Nat} {n6 : Nat} {f7 : Nat → Int32} {w : qk_W} {nc ns : Nat} {Q : Option Value ⊕ Nat → qk_W → Nat → Nat → Prop}  (hw1 : wo w a0 11 fs2) (hf3 : fs2[12]? = some (.ref c4)) (ha5 : wz w c4 n6 f7) (hi8 : vp_in ((x1 * 32768) + x2) n6) (kt : ¬ (f7 ((x1 * 32768) + x2).toNatClampNeg) = 0 → Ev d m_Mo_leastAsked 28 [some (.ref a0), some (.int x1), some (.int x2)] st w nc ns Q) (kf : (f7 ((x1 * 32768) + x2).toNatClampNeg) = 0 → Ev d m_Mo_leastAsked 22 [some (.ref a0), some (.int x1), some (.int x2)] st w nc ns Q) : Ev d m_Mo_leastAsked 8 [some (.ref a0), some (.int x1), some (.int x2)] st w nc ns Q := by
  refine ev_aload_n d_Mo_leastAsked_8 rfl rfl ?_
  refine ev_getf d_Mo_leastAsked_9 fl_Mo_43 hw1.1 hw1.2 hf3 ?_
  refine ev_iload_n d_Mo_leastAsked_12 rfl ?_
  refine ev_ldc 32768 d_Mo_leastAsked_13 lc_Mo_46 ?_
  refine ev_imul d_Mo_leastAsked_15 ?_
  refine ev_iload_n d_Mo_leastAsked_16 rfl ?_
  refine ev_iadd d_Mo_leastAsked_17 ?_
  refine ev_zald d_Mo_leastAsked_18 ha5.1 ha5.2 hi8 ?_
  exact ev_if_ne 28 d_Mo_leastAsked_19 (by decide) kt kf
theorem t_Mo_leastAsked_22 {d : Nat} {st : List Value} {o0 : Option Value} {o1 : Option Value} {x2 : Int32} {w : qk_W} {nc ns : Nat} {Q : Option Value ⊕ Nat → qk_W → Nat → Nat → Prop}  (hc1 : qk_c2 [o0, o1, some (.int x2)] 2 = true) (k : Ev d m_Mo_leastAsked 2 [o0, o1, some (.int (x2 + 1))] st w nc ns Q) : Ev d m_Mo_leastAsked 22 [o0, o1, some (.int x2)] st w nc ns Q := by
  refine ev_iinc 1 d_Mo_leastAsked_22 (by decide) rfl (by decide) hc1 ?_
  refine ev_goto 2 d_Mo_leastAsked_25 (by decide) ?_
  exact k
theorem t_Mo_leastAsked_28 {d : Nat} {o0 : Option Value} {o1 : Option Value} {x2 : Int32} {w : qk_W} {nc ns : Nat} {Q : Option Value ⊕ Nat → qk_W → Nat → Nat → Prop}   (hq : Q (.inl (some (.int x2))) w nc ns) : Ev d m_Mo_leastAsked 28 [o0, o1, some (.int x2)] [] w nc ns Q := by
  refine ev_iload_n d_Mo_leastAsked_28 rfl ?_
  exact ev_iret d_Mo_leastAsked_29 rfl rfl hq
/-! Mo_send -/
theorem cw_Mo_126 : qk_cw "QuakeLinkModel" m_Mo_begin.1 (.invokevirtual 126) := ⟨(lw_i5 _ (List.mem_of_getElem? (i := 105) rfl)), (lw_i5 _ (List.mem_of_getElem? (i := 107) rfl)), (lw_i0 _ (List.mem_of_getElem? (i := 29) rfl))⟩
theorem cw_Mo_123 : qk_cw "QuakeLinkModel" m_Mo_put.1 (.invokevirtual 123) := ⟨(lw_i5 _ (List.mem_of_getElem? (i := 109) rfl)), (lw_i5 _ (List.mem_of_getElem? (i := 111) rfl)), (lw_i0 _ (List.mem_of_getElem? (i := 30) rfl))⟩
theorem cw_Mo_132 : qk_cw "QuakeLinkModel" m_Mo_end.1 (.invokevirtual 132) := ⟨(lw_i5 _ (List.mem_of_getElem? (i := 117) rfl)), (lw_i5 _ (List.mem_of_getElem? (i := 119) rfl)), (lw_i0 _ (List.mem_of_getElem? (i := 32) rfl))⟩
theorem d_Mo_send_0 : decode m_Mo_send.2.1 0 = .ok (.aload_n 0, 1) := by decide +kernel
theorem d_Mo_send_1 : decode m_Mo_send.2.1 1 = .ok (.getfield 27, 3) := by decide +kernel
theorem d_Mo_send_4 : decode m_Mo_send.2.1 4 = .ok (.iload_n 1, 1) := by decide +kernel
theorem d_Mo_send_5 : decode m_Mo_send.2.1 5 = .ok (.iaload, 1) := by decide +kernel
theorem d_Mo_send_6 : decode m_Mo_send.2.1 6 = .ok (.istore_n 2, 1) := by decide +kernel
theorem d_Mo_send_7 : decode m_Mo_send.2.1 7 = .ok (.aload_n 0, 1) := by decide +kernel
theorem d_Mo_send_8 : decode m_Mo_send.2.1 8 = .ok (.getfield 30, 3) := by decide +kernel
theorem d_Mo_send_11 : decode m_Mo_send.2.1 11 = .ok (.iload_n 1, 1) := by decide +kernel
theorem d_Mo_send_12 : decode m_Mo_send.2.1 12 = .ok (.iaload, 1) := by decide +kernel
theorem d_Mo_send_13 : decode m_Mo_send.2.1 13 = .ok (.istore_n 3, 1) := by decide +kernel
theorem d_Mo_send_14 : decode m_Mo_send.2.1 14 = .ok (.aload_n 0, 1) := by decide +kernel
theorem d_Mo_send_15 : decode m_Mo_send.2.1 15 = .ok (.getfield 33, 3) := by decide +kernel
theorem d_Mo_send_18 : decode m_Mo_send.2.1 18 = .ok (.iload_n 1, 1) := by decide +kernel
theorem d_Mo_send_19 : decode m_Mo_send.2.1 19 = .ok (.iaload, 1) := by decide +kernel
theorem d_Mo_send_20 : decode m_Mo_send.2.1 20 = .ok (.istore 4, 2) := by decide +kernel
theorem d_Mo_send_22 : decode m_Mo_send.2.1 22 = .ok (.aload_n 0, 1) := by decide +kernel
theorem d_Mo_send_23 : decode m_Mo_send.2.1 23 = .ok (.invokevirtual 126, 3) := by decide +kernel
theorem d_Mo_send_26 : decode m_Mo_send.2.1 26 = .ok (.aload_n 0, 1) := by decide +kernel
theorem d_Mo_send_27 : decode m_Mo_send.2.1 27 = .ok (.iload_n 2, 1) := by decide +kernel
theorem d_Mo_send_28 : decode m_Mo_send.2.1 28 = .ok (.bipush 8, 2) := by decide +kernel
theorem d_Mo_send_30 : decode m_Mo_send.2.1 30 = .ok (.invokevirtual 123, 3) := by decide +kernel
theorem d_Mo_send_33 : decode m_Mo_send.2.1 33 = .ok (.aload_n 0, 1) := by decide +kernel
theorem d_Mo_send_34 : decode m_Mo_send.2.1 34 = .ok (.aload_n 0, 1) := by decide +kernel
theorem d_Mo_send_35 : decode m_Mo_send.2.1 35 = .ok (.getfield 36, 3) := by decide +kernel
theorem d_Mo_send_38 : decode m_Mo_send.2.1 38 = .ok (.iload_n 1, 1) := by decide +kernel
theorem d_Mo_send_39 : decode m_Mo_send.2.1 39 = .ok (.iaload, 1) := by decide +kernel
theorem d_Mo_send_40 : decode m_Mo_send.2.1 40 = .ok (.bipush 8, 2) := by decide +kernel
theorem d_Mo_send_42 : decode m_Mo_send.2.1 42 = .ok (.invokevirtual 123, 3) := by decide +kernel
theorem d_Mo_send_45 : decode m_Mo_send.2.1 45 = .ok (.aload_n 0, 1) := by decide +kernel
theorem d_Mo_send_46 : decode m_Mo_send.2.1 46 = .ok (.iload 4, 2) := by decide +kernel
theorem d_Mo_send_48 : decode m_Mo_send.2.1 48 = .ok (.bipush 16, 2) := by decide +kernel
theorem d_Mo_send_50 : decode m_Mo_send.2.1 50 = .ok (.invokevirtual 123, 3) := by decide +kernel
theorem d_Mo_send_53 : decode m_Mo_send.2.1 53 = .ok (.aload_n 0, 1) := by decide +kernel
theorem d_Mo_send_54 : decode m_Mo_send.2.1 54 = .ok (.aload_n 0, 1) := by decide +kernel
theorem d_Mo_send_55 : decode m_Mo_send.2.1 55 = .ok (.iload_n 2, 1) := by decide +kernel
theorem d_Mo_send_56 : decode m_Mo_send.2.1 56 = .ok (.invokevirtual 129, 3) := by decide +kernel
theorem d_Mo_send_59 : decode m_Mo_send.2.1 59 = .ok (.bipush 32, 2) := by decide +kernel
theorem d_Mo_send_61 : decode m_Mo_send.2.1 61 = .ok (.invokevirtual 123, 3) := by decide +kernel
theorem d_Mo_send_64 : decode m_Mo_send.2.1 64 = .ok (.aload_n 0, 1) := by decide +kernel
theorem d_Mo_send_65 : decode m_Mo_send.2.1 65 = .ok (.iload_n 3, 1) := by decide +kernel
theorem d_Mo_send_66 : decode m_Mo_send.2.1 66 = .ok (.bipush 32, 2) := by decide +kernel
theorem d_Mo_send_68 : decode m_Mo_send.2.1 68 = .ok (.invokevirtual 123, 3) := by decide +kernel
theorem d_Mo_send_71 : decode m_Mo_send.2.1 71 = .ok (.aload_n 0, 1) := by decide +kernel
theorem d_Mo_send_72 : decode m_Mo_send.2.1 72 = .ok (.aload_n 0, 1) := by decide +kernel
theorem d_Mo_send_73 : decode m_Mo_send.2.1 73 = .ok (.getfield 8, 3) := by decide +kernel
theorem d_Mo_send_76 : decode m_Mo_send.2.1 76 = .ok (.iload_n 2, 1) := by decide +kernel
theorem d_Mo_send_77 : decode m_Mo_send.2.1 77 = .ok (.ldc 46, 2) := by decide +kernel
theorem d_Mo_send_79 : decode m_Mo_send.2.1 79 = .ok (.imul, 1) := by decide +kernel
theorem d_Mo_send_80 : decode m_Mo_send.2.1 80 = .ok (.iload_n 3, 1) := by decide +kernel
theorem d_Mo_send_81 : decode m_Mo_send.2.1 81 = .ok (.iadd, 1) := by decide +kernel
theorem d_Mo_send_82 : decode m_Mo_send.2.1 82 = .ok (.iaload, 1) := by decide +kernel
theorem d_Mo_send_83 : decode m_Mo_send.2.1 83 = .ok (.bipush 32, 2) := by decide +kernel
theorem d_Mo_send_85 : decode m_Mo_send.2.1 85 = .ok (.invokevirtual 123, 3) := by decide +kernel
theorem d_Mo_send_88 : decode m_Mo_send.2.1 88 = .ok (.aload_n 0, 1) := by decide +kernel
theorem d_Mo_send_89 : decode m_Mo_send.2.1 89 = .ok (.aload_n 0, 1) := by decide +kernel
theorem d_Mo_send_90 : decode m_Mo_send.2.1 90 = .ok (.getfield 8, 3) := by decide +kernel
theorem d_Mo_send_93 : decode m_Mo_send.2.1 93 = .ok (.iload_n 2, 1) := by decide +kernel
theorem d_Mo_send_94 : decode m_Mo_send.2.1 94 = .ok (.ldc 46, 2) := by decide +kernel
theorem d_Mo_send_96 : decode m_Mo_send.2.1 96 = .ok (.imul, 1) := by decide +kernel
theorem d_Mo_send_97 : decode m_Mo_send.2.1 97 = .ok (.iload_n 3, 1) := by decide +kernel
theorem d_Mo_send_98 : decode m_Mo_send.2.1 98 = .ok (.iadd, 1) := by decide +kernel
theorem d_Mo_send_99 : decode m_Mo_send.2.1 99 = .ok (.iload 4, 2) := by decide +kernel
theorem d_Mo_send_101 : decode m_Mo_send.2.1 101 = .ok (.iadd, 1) := by decide +kernel
theorem d_Mo_send_102 : decode m_Mo_send.2.1 102 = .ok (.iconst 1, 1) := by decide +kernel
theorem d_Mo_send_103 : decode m_Mo_send.2.1 103 = .ok (.isub, 1) := by decide +kernel
theorem d_Mo_send_104 : decode m_Mo_send.2.1 104 = .ok (.iaload, 1) := by decide +kernel
theorem d_Mo_send_105 : decode m_Mo_send.2.1 105 = .ok (.bipush 32, 2) := by decide +kernel
theorem d_Mo_send_107 : decode m_Mo_send.2.1 107 = .ok (.invokevirtual 123, 3) := by decide +kernel
theorem d_Mo_send_110 : decode m_Mo_send.2.1 110 = .ok (.iconst 1, 1) := by decide +kernel
theorem d_Mo_send_111 : decode m_Mo_send.2.1 111 = .ok (.istore 5, 2) := by decide +kernel
theorem d_Mo_send_113 : decode m_Mo_send.2.1 113 = .ok (.iload 5, 2) := by decide +kernel
theorem d_Mo_send_115 : decode m_Mo_send.2.1 115 = .ok (.iload 4, 2) := by decide +kernel
theorem d_Mo_send_117 : decode m_Mo_send.2.1 117 = .ok (.if_icmp .ge 88, 3) := by decide +kernel
theorem d_Mo_send_120 : decode m_Mo_send.2.1 120 = .ok (.iload 5, 2) := by decide +kernel
theorem d_Mo_send_122 : decode m_Mo_send.2.1 122 = .ok (.bipush 14, 2) := by decide +kernel
theorem d_Mo_send_124 : decode m_Mo_send.2.1 124 = .ok (.iadd, 1) := by decide +kernel
theorem d_Mo_send_125 : decode m_Mo_send.2.1 125 = .ok (.iload 4, 2) := by decide +kernel
theorem d_Mo_send_127 : decode m_Mo_send.2.1 127 = .ok (.iconst 1, 1) := by decide +kernel
theorem d_Mo_send_128 : decode m_Mo_send.2.1 128 = .ok (.isub, 1) := by decide +kernel
theorem d_Mo_send_129 : decode m_Mo_send.2.1 129 = .ok (.if_icmp .ge 11, 3) := by decide +kernel
theorem d_Mo_send_132 : decode m_Mo_send.2.1 132 = .ok (.iload 5, 2) := by decide +kernel
theorem d_Mo_send_134 : decode m_Mo_send.2.1 134 = .ok (.bipush 14, 2) := by decide +kernel
theorem d_Mo_send_136 : decode m_Mo_send.2.1 136 = .ok (.iadd, 1) := by decide +kernel
theorem d_Mo_send_137 : decode m_Mo_send.2.1 137 = .ok (.goto 7, 3) := by decide +kernel
theorem d_Mo_send_140 : decode m_Mo_send.2.1 140 = .ok (.iload 4, 2) := by decide +kernel
theorem d_Mo_send_142 : decode m_Mo_send.2.1 142 = .ok (.iconst 1, 1) := by decide +kernel
theorem d_Mo_send_143 : decode m_Mo_send.2.1 143 = .ok (.isub, 1) := by decide +kernel
theorem d_Mo_send_144 : decode m_Mo_send.2.1 144 = .ok (.istore 6, 2) := by decide +kernel
theorem d_Mo_send_146 : decode m_Mo_send.2.1 146 = .ok (.aload_n 0, 1) := by decide +kernel
theorem d_Mo_send_147 : decode m_Mo_send.2.1 147 = .ok (.iload_n 2, 1) := by decide +kernel
theorem d_Mo_send_148 : decode m_Mo_send.2.1 148 = .ok (.iload_n 3, 1) := by decide +kernel
theorem d_Mo_send_149 : decode m_Mo_send.2.1 149 = .ok (.iload 5, 2) := by decide +kernel
theorem d_Mo_send_151 : decode m_Mo_send.2.1 151 = .ok (.iload 6, 2) := by decide +kernel
theorem d_Mo_send_153 : decode m_Mo_send.2.1 153 = .ok (.invokevirtual 84, 3) := by decide +kernel
theorem d_Mo_send_156 : decode m_Mo_send.2.1 156 = .ok (.istore 7, 2) := by decide +kernel
theorem d_Mo_send_158 : decode m_Mo_send.2.1 158 = .ok (.aload_n 0, 1) := by decide +kernel
theorem d_Mo_send_159 : decode m_Mo_send.2.1 159 = .ok (.iload 7, 2) := by decide +kernel
theorem d_Mo_send_161 : decode m_Mo_send.2.1 161 = .ok (.iconst 4, 1) := by decide +kernel
theorem d_Mo_send_162 : decode m_Mo_send.2.1 162 = .ok (.invokevirtual 123, 3) := by decide +kernel
theorem d_Mo_send_165 : decode m_Mo_send.2.1 165 = .ok (.iload 5, 2) := by decide +kernel
theorem d_Mo_send_167 : decode m_Mo_send.2.1 167 = .ok (.istore 8, 2) := by decide +kernel
theorem d_Mo_send_169 : decode m_Mo_send.2.1 169 = .ok (.iload 8, 2) := by decide +kernel
theorem d_Mo_send_171 : decode m_Mo_send.2.1 171 = .ok (.iload 6, 2) := by decide +kernel
theorem d_Mo_send_173 : decode m_Mo_send.2.1 173 = .ok (.if_icmp .gt 26, 3) := by decide +kernel
theorem d_Mo_send_176 : decode m_Mo_send.2.1 176 = .ok (.aload_n 0, 1) := by decide +kernel
theorem d_Mo_send_177 : decode m_Mo_send.2.1 177 = .ok (.aload_n 0, 1) := by decide +kernel
theorem d_Mo_send_178 : decode m_Mo_send.2.1 178 = .ok (.iload_n 2, 1) := by decide +kernel
theorem d_Mo_send_179 : decode m_Mo_send.2.1 179 = .ok (.iload_n 3, 1) := by decide +kernel
theorem d_Mo_send_180 : decode m_Mo_send.2.1 180 = .ok (.iload 8, 2) := by decide +kernel
theorem d_Mo_send_182 : decode m_Mo_send.2.1 182 = .ok (.invokevirtual 72, 3) := by decide +kernel
theorem d_Mo_send_185 : decode m_Mo_send.2.1 185 = .ok (.iload 7, 2) := by decide +kernel
theorem d_Mo_send_187 : decode m_Mo_send.2.1 187 = .ok (.invokestatic 76, 3) := by decide +kernel
theorem d_Mo_send_190 : decode m_Mo_send.2.1 190 = .ok (.invokevirtual 123, 3) := by decide +kernel
theorem d_Mo_send_193 : decode m_Mo_send.2.1 193 = .ok (.iinc 8 1, 3) := by decide +kernel
theorem d_Mo_send_196 : decode m_Mo_send.2.1 196 = .ok (.goto (-27), 3) := by decide +kernel
theorem d_Mo_send_199 : decode m_Mo_send.2.1 199 = .ok (.iinc 5 15, 3) := by decide +kernel
theorem d_Mo_send_202 : decode m_Mo_send.2.1 202 = .ok (.goto (-89), 3) := by decide +kernel
theorem d_Mo_send_205 : decode m_Mo_send.2.1 205 = .ok (.aload_n 0, 1) := by decide +kernel
theorem d_Mo_send_206 : decode m_Mo_send.2.1 206 = .ok (.invokevirtual 132, 3) := by decide +kernel
theorem d_Mo_send_209 : decode m_Mo_send.2.1 209 = .ok (.ireturn, 1) := by decide +kernel
theorem t_Mo_send_0 {d : Nat} {st : List Value} {a0 : Nat} {x1 : Int32} {o2 : Option Value} {o3 : Option Value} {o4 : Option Value} {o5 : Option Value} {o6 : Option Value} {o7 : Option Value} {o8 : Option Value} {fs2 : List Value} {c4 : Nat} {n6 : Nat} {f7 : Nat → Int32} {c12 : Nat} {n14 : Nat} {f15 : Nat → Int32} {c20 : Nat} {n22 : Nat} {f23 : Nat → Int32} {w : qk_W} {nc ns : Nat} {Q : Option Value ⊕ Nat → qk_W → Nat → Nat → Prop}  (hw1 : wo w a0 11 fs2) (hf3 : fs2[6]? = some (.ref c4)) (ha5 : wi w c4 n6 f7) (hi8 : vp_in x1 n6) (hf11 : fs2[7]? = some (.ref c12)) (ha13 : wi w c12 n14 f15) (hi16 : vp_in x1 n14) (hf19 : fs2[8]? = some (.ref c20)) (ha21 : wi w c20 n22 f23) (hi24 : vp_in x1 n22) (h8 : (st.map fun v => Value.category v).sum ≤ 8) (k : Ev d m_Mo_begin 0 [some (.ref a0), none] [] w nc ns (fun r w1 nc1 ns1 => match r with | .inl v => Ev (d + 1) m_Mo_send 26 [some (.ref a0), some (.int x1), some (.int (f7 x1.toNatClampNeg)), some (.int (f15 x1.toNatClampNeg)), some (.int (f23 x1.toNatClampNeg)), o5, o6, o7, o8] (v.toList ++ st) w1 nc1 ns1 Q | .inr x => Q (.inr x) w1 nc1 ns1)) : Ev (d + 1) m_Mo_send 0 [some (.ref a0), some (.int x1), o2, o3, o4, o5, o6, o7, o8] st w nc ns Q := by
  refine ev_aload_n d_Mo_send_0 rfl rfl ?_
  refine ev_getf d_Mo_send_1 fl_Mo_27 hw1.1 hw1.2 hf3 ?_
  refine ev_iload_n d_Mo_send_4 rfl ?_
  refine ev_iald d_Mo_send_5 ha5 hi8 ?_
  refine ev_istore_n d_Mo_send_6 (by decide) rfl ?_
  refine ev_aload_n d_Mo_send_7 rfl rfl ?_
  refine ev_getf d_Mo_send_8 fl_Mo_30 hw1.1 hw1.2 hf11 ?_
  refine ev_iload_n d_Mo_send_11 rfl ?_
  refine ev_iald d_Mo_send_12 ha13 hi16 ?_
  refine ev_istore_n d_Mo_send_13 (by decide) rfl ?_
  refine ev_aload_n d_Mo_send_14 rfl rfl ?_
  refine ev_getf d_Mo_send_15 fl_Mo_33 hw1.1 hw1.2 hf19 ?_
  refine ev_iload_n d_Mo_send_18 rfl ?_
  refine ev_iald d_Mo_send_19 ha21 hi24 ?_
  refine ev_istore d_Mo_send_20 (by decide) rfl ?_
  refine ev_aload_n d_Mo_send_22 rfl rfl ?_
  exact ev_call (M' := m_Mo_begin) (As := [.ref a0]) (st := st) d_Mo_send_23 i_Mo_begin (fun h => absurd h (by decide +kernel)) cw_Mo_126 rfl rfl ⟨hw1.1, 11, _, _, hw1.2, rfl, rfl⟩ rfl (Nat.le_of_ble_eq_true rfl) h8 k
theorem t_Mo_send_26 {d : Nat} {st : List Value} {a0 : Nat} {o1 : Option Value} {x2 : Int32} {o3 : Option Value} {o4 : Option Value} {o5 : Option Value} {o6 : Option Value} {o7 : Option Value} {o8 : Option Value} {fsb : List Value} {w : qk_W} {nc ns : Nat} {Q : Option Value ⊕ Nat → qk_W → Nat → Nat → Prop}  (hb : wo w a0 11 fsb) (h8 : (st.map fun v => Value.category v).sum ≤ 8) (k : Ev d m_Mo_put 0 [some (.ref a0), some (.int x2), some (.int 8), none, none] [] w nc ns (fun r w1 nc1 ns1 => match r with | .inl v => Ev (d + 1) m_Mo_send 33 [some (.ref a0), o1, some (.int x2), o3, o4, o5, o6, o7, o8] (v.toList ++ st) w1 nc1 ns1 Q | .inr x => Q (.inr x) w1 nc1 ns1)) : Ev (d + 1) m_Mo_send 26 [some (.ref a0), o1, some (.int x2), o3, o4, o5, o6, o7, o8] st w nc ns Q := by
  refine ev_aload_n d_Mo_send_26 rfl rfl ?_
  refine ev_iload_n d_Mo_send_27 rfl ?_
  refine ev_bipush 8 d_Mo_send_28 (by decide) ?_
  exact ev_call (M' := m_Mo_put) (As := [.ref a0, .int x2, .int 8]) (st := st) d_Mo_send_30 i_Mo_put (fun h => absurd h (by decide +kernel)) cw_Mo_123 rfl rfl ⟨hb.1, 11, _, _, hb.2, rfl, rfl⟩ rfl (Nat.le_of_ble_eq_true rfl) h8 k
theorem t_Mo_send_33 {d : Nat} {st : List Value} {a0 : Nat} {x1 : Int32} {o2 : Option Value} {o3 : Option Value} {o4 : Option Value} {o5 : Option Value} {o6 : Option Value} {o7 : Option Value} {o8 : Option Value} {fs2 : List Value} {c4 : Nat} {n6 : Nat} {f7 : Nat → Int32} {w : qk_W} {nc ns : Nat} {Q : Option Value ⊕ Nat → qk_W → Nat → Nat → Prop}  (hw1 : wo w a0 11 fs2) (hf3 : fs2[9]? = some (.ref c4)) (ha5 : wi w c4 n6 f7) (hi8 : vp_in x1 n6) (h8 : (st.map fun v => Value.category v).sum ≤ 8) (k : Ev d m_Mo_put 0 [some (.ref a0), some (.int (f7 x1.toNatClampNeg)), some (.int 8), none, none] [] w nc ns (fun r w1 nc1 ns1 => match r with | .inl v => Ev (d + 1) m_Mo_send 45 [some (.ref a0), some (.int x1), o2, o3, o4, o5, o6, o7, o8] (v.toList ++ st) w1 nc1 ns1 Q | .inr x => Q (.inr x) w1 nc1 ns1)) : Ev (d + 1) m_Mo_send 33 [some (.ref a0), some (.int x1), o2, o3, o4, o5, o6, o7, o8] st w nc ns Q := by
  refine ev_aload_n d_Mo_send_33 rfl rfl ?_
  refine ev_aload_n d_Mo_send_34 rfl rfl ?_
  refine ev_getf d_Mo_send_35 fl_Mo_36 hw1.1 hw1.2 hf3 ?_
  refine ev_iload_n d_Mo_send_38 rfl ?_
  refine ev_iald d_Mo_send_39 ha5 hi8 ?_
  refine ev_bipush 8 d_Mo_send_40 (by decide) ?_
  exact ev_call (M' := m_Mo_put) (As := [.ref a0, .int (f7 x1.toNatClampNeg), .int 8]) (st := st) d_Mo_send_42 i_Mo_put (fun h => absurd h (by decide +kernel)) cw_Mo_123 rfl rfl ⟨hw1.1, 11, _, _, hw1.2, rfl, rfl⟩ rfl (Nat.le_of_ble_eq_true rfl) h8 k
theorem t_Mo_send_45 {d : Nat} {st : List Value} {a0 : Nat} {o1 : Option Value} {o2 : Option Value} {o3 : Option Value} {x4 : Int32} {o5 : Option Value} {o6 : Option Value} {o7 : Option Value} {o8 : Option Value} {fsb : List Value} {w : qk_W} {nc ns : Nat} {Q : Option Value ⊕ Nat → qk_W → Nat → Nat → Prop}  (hb : wo w a0 11 fsb) (h8 : (st.map fun v => Value.category v).sum ≤ 8) (k : Ev d m_Mo_put 0 [some (.ref a0), some (.int x4), some (.int 16), none, none] [] w nc ns (fun r w1 nc1 ns1 => match r with | .inl v => Ev (d + 1) m_Mo_send 53 [some (.ref a0), o1, o2, o3, some (.int x4), o5, o6, o7, o8] (v.toList ++ st) w1 nc1 ns1 Q | .inr x => Q (.inr x) w1 nc1 ns1)) : Ev (d + 1) m_Mo_send 45 [some (.ref a0), o1, o2, o3, some (.int x4), o5, o6, o7, o8] st w nc ns Q := by
  refine ev_aload_n d_Mo_send_45 rfl rfl ?_
  refine ev_iload d_Mo_send_46 rfl ?_
  refine ev_bipush 16 d_Mo_send_48 (by decide) ?_
  exact ev_call (M' := m_Mo_put) (As := [.ref a0, .int x4, .int 16]) (st := st) d_Mo_send_50 i_Mo_put (fun h => absurd h (by decide +kernel)) cw_Mo_123 rfl rfl ⟨hb.1, 11, _, _, hb.2, rfl, rfl⟩ rfl (Nat.le_of_ble_eq_true rfl) h8 k
theorem t_Mo_send_53 {d : Nat} {st : List Value} {a0 : Nat} {o1 : Option Value} {x2 : Int32} {o3 : Option Value} {o4 : Option Value} {o5 : Option Value} {o6 : Option Value} {o7 : Option Value} {o8 : Option Value} {fsb : List Value} {w : qk_W} {nc ns : Nat} {Q : Option Value ⊕ Nat → qk_W → Nat → Nat → Prop}  (hb : wo w a0 11 fsb) (h8 : ((.ref a0 :: st).map fun v => Value.category v).sum ≤ 8) (k : Ev d m_Mo_oldest 0 [some (.ref a0), some (.int x2), none] [] w nc ns (fun r w1 nc1 ns1 => match r with | .inl v => Ev (d + 1) m_Mo_send 59 [some (.ref a0), o1, some (.int x2), o3, o4, o5, o6, o7, o8] (v.toList ++ (.ref a0 :: st)) w1 nc1 ns1 Q | .inr x => Q (.inr x) w1 nc1 ns1)) : Ev (d + 1) m_Mo_send 53 [some (.ref a0), o1, some (.int x2), o3, o4, o5, o6, o7, o8] st w nc ns Q := by
  refine ev_aload_n d_Mo_send_53 rfl rfl ?_
  refine ev_aload_n d_Mo_send_54 rfl rfl ?_
  refine ev_iload_n d_Mo_send_55 rfl ?_
  exact ev_call (M' := m_Mo_oldest) (As := [.ref a0, .int x2]) (st := (.ref a0 :: st)) d_Mo_send_56 i_Mo_oldest (fun h => absurd h (by decide +kernel)) cw_Mo_129 rfl rfl ⟨hb.1, 11, _, _, hb.2, rfl, rfl⟩ rfl (Nat.le_of_ble_eq_true rfl) h8 k
theorem t_Mo_send_59 {d : Nat} {st : List Value} {o0 : Option Value} {o1 : Option Value} {o2 : Option Value} {o3 : Option Value} {o4 : Option Value} {o5 : Option Value} {o6 : Option Value} {o7 : Option Value} {o8 : Option Value} {y0 : Int32} {b1 : Nat} {fsb : List Value} {w : qk_W} {nc ns : Nat} {Q : Option Value ⊕ Nat → qk_W → Nat → Nat → Prop}  (hb : wo w b1 11 fsb) (h8 : (st.map fun v => Value.category v).sum ≤ 8) (k : Ev d m_Mo_put 0 [some (.ref b1), some (.int y0), some (.int 32), none, none] [] w nc ns (fun r w1 nc1 ns1 => match r with | .inl v => Ev (d + 1) m_Mo_send 64 [o0, o1, o2, o3, o4, o5, o6, o7, o8] (v.toList ++ st) w1 nc1 ns1 Q | .inr x => Q (.inr x) w1 nc1 ns1)) : Ev (d + 1) m_Mo_send 59 [o0, o1, o2, o3, o4, o5, o6, o7, o8] (.int y0 :: .ref b1 :: st) w nc ns Q := by
  refine ev_bipush 32 d_Mo_send_59 (by decide) ?_
  exact ev_call (M' := m_Mo_put) (As := [.ref b1, .int y0, .int 32]) (st := st) d_Mo_send_61 i_Mo_put (fun h => absurd h (by decide +kernel)) cw_Mo_123 rfl rfl ⟨hb.1, 11, _, _, hb.2, rfl, rfl⟩ rfl (Nat.le_of_ble_eq_true rfl) h8 k
theorem t_Mo_send_64 {d : Nat} {st : List Value} {a0 : Nat} {o1 : Option Value} {o2 : Option Value} {x3 : Int32} {o4 : Option Value} {o5 : Option Value} {o6 : Option Value} {o7 : Option Value} {o8 : Option Value} {fsb : List Value} {w : qk_W} {nc ns : Nat} {Q : Option Value ⊕ Nat → qk_W → Nat → Nat → Prop}  (hb : wo w a0 11 fsb) (h8 : (st.map fun v => Value.category v).sum ≤ 8) (k : Ev d m_Mo_put 0 [some (.ref a0), some (.int x3), some (.int 32), none, none] [] w nc ns (fun r w1 nc1 ns1 => match r with | .inl v => Ev (d + 1) m_Mo_send 71 [some (.ref a0), o1, o2, some (.int x3), o4, o5, o6, o7, o8] (v.toList ++ st) w1 nc1 ns1 Q | .inr x => Q (.inr x) w1 nc1 ns1)) : Ev (d + 1) m_Mo_send 64 [some (.ref a0), o1, o2, some (.int x3), o4, o5, o6, o7, o8] st w nc ns Q := by
  refine ev_aload_n d_Mo_send_64 rfl rfl ?_
  refine ev_iload_n d_Mo_send_65 rfl ?_
  refine ev_bipush 32 d_Mo_send_66 (by decide) ?_
  exact ev_call (M' := m_Mo_put) (As := [.ref a0, .int x3, .int 32]) (st := st) d_Mo_send_68 i_Mo_put (fun h => absurd h (by decide +kernel)) cw_Mo_123 rfl rfl ⟨hb.1, 11, _, _, hb.2, rfl, rfl⟩ rfl (Nat.le_of_ble_eq_true rfl) h8 k
theorem t_Mo_send_71 {d : Nat} {st : List Value} {a0 : Nat} {o1 : Option Value} {x2 : Int32} {x3 : Int32} {o4 : Option Value} {o5 : Option Value} {o6 : Option Value} {o7 : Option Value} {o8 : Option Value} {fs2 : List Value} {c4 : Nat} {n6 : Nat} {f7 : Nat → Int32} {w : qk_W} {nc ns : Nat} {Q : Option Value ⊕ Nat → qk_W → Nat → Nat → Prop}  (hw1 : wo w a0 11 fs2) (hf3 : fs2[1]? = some (.ref c4)) (ha5 : wi w c4 n6 f7) (hi8 : vp_in ((x2 * 32768) + x3) n6) (h8 : (st.map fun v => Value.category v).sum ≤ 8) (k : Ev d m_Mo_put 0 [some (.ref a0), some (.int (f7 ((x2 * 32768) + x3).toNatClampNeg)), some (.int 32), none, none] [] w nc ns (fun r w1 nc1 ns1 => match r with | .inl v => Ev (d + 1) m_Mo_send 88 [some (.ref a0), o1, some (.int x2), some (.int x3), o4, o5, o6, o7, o8] (v.toList ++ st) w1 nc1 ns1 Q | .inr x => Q (.inr x) w1 nc1 ns1)) : Ev (d + 1) m_Mo_send 71 [some (.ref a0), o1, some (.int x2), some (.int x3), o4, o5, o6, o7, o8] st w nc ns Q := by
  refine ev_aload_n d_Mo_send_71 rfl rfl ?_
  refine ev_aload_n d_Mo_send_72 rfl rfl ?_
  refine ev_getf d_Mo_send_73 fl_Mo_8 hw1.1 hw1.2 hf3 ?_
  refine ev_iload_n d_Mo_send_76 rfl ?_
  refine ev_ldc 32768 d_Mo_send_77 lc_Mo_46 ?_
  refine ev_imul d_Mo_send_79 ?_
  refine ev_iload_n d_Mo_send_80 rfl ?_
  refine ev_iadd d_Mo_send_81 ?_
  refine ev_iald d_Mo_send_82 ha5 hi8 ?_
  refine ev_bipush 32 d_Mo_send_83 (by decide) ?_
  exact ev_call (M' := m_Mo_put) (As := [.ref a0, .int (f7 ((x2 * 32768) + x3).toNatClampNeg), .int 32]) (st := st) d_Mo_send_85 i_Mo_put (fun h => absurd h (by decide +kernel)) cw_Mo_123 rfl rfl ⟨hw1.1, 11, _, _, hw1.2, rfl, rfl⟩ rfl (Nat.le_of_ble_eq_true rfl) h8 k
theorem t_Mo_send_88 {d : Nat} {st : List Value} {a0 : Nat} {o1 : Option Value} {x2 : Int32} {x3 : Int32} {x4 : Int32} {o5 : Option Value} {o6 : Option Value} {o7 : Option Value} {o8 : Option Value} {fs2 : List Value} {c4 : Nat} {n6 : Nat} {f7 : Nat → Int32} {w : qk_W} {nc ns : Nat} {Q : Option Value ⊕ Nat → qk_W → Nat → Nat → Prop}  (hw1 : wo w a0 11 fs2) (hf3 : fs2[1]? = some (.ref c4)) (ha5 : wi w c4 n6 f7) (hi8 : vp_in ((((x2 * 32768) + x3) + x4) - 1) n6) (h8 : (st.map fun v => Value.category v).sum ≤ 8) (k : Ev d m_Mo_put 0 [some (.ref a0), some (.int (f7 ((((x2 * 32768) + x3) + x4) - 1).toNatClampNeg)), some (.int 32), none, none] [] w nc ns (fun r w1 nc1 ns1 => match r with | .inl v => Ev (d + 1) m_Mo_send 110 [some (.ref a0), o1, some (.int x2), some (.int x3), some (.int x4), o5, o6, o7, o8] (v.toList ++ st) w1 nc1 ns1 Q | .inr x => Q (.inr x) w1 nc1 ns1)) : Ev (d + 1) m_Mo_send 88 [some (.ref a0), o1, some (.int x2), some (.int x3), some (.int x4), o5, o6, o7, o8] st w nc ns Q := by
  refine ev_aload_n d_Mo_send_88 rfl rfl ?_
  refine ev_aload_n d_Mo_send_89 rfl rfl ?_
  refine ev_getf d_Mo_send_90 fl_Mo_8 hw1.1 hw1.2 hf3 ?_
  refine ev_iload_n d_Mo_send_93 rfl ?_
  refine ev_ldc 32768 d_Mo_send_94 lc_Mo_46 ?_
  refine ev_imul d_Mo_send_96 ?_
  refine ev_iload_n d_Mo_send_97 rfl ?_
  refine ev_iadd d_Mo_send_98 ?_
  refine ev_iload d_Mo_send_99 rfl ?_
  refine ev_iadd d_Mo_send_101 ?_
  refine ev_iconst 1 d_Mo_send_102 (by decide) ?_
  refine ev_isub d_Mo_send_103 ?_
  refine ev_iald d_Mo_send_104 ha5 hi8 ?_
  refine ev_bipush 32 d_Mo_send_105 (by decide) ?_
  exact ev_call (M' := m_Mo_put) (As := [.ref a0, .int (f7 ((((x2 * 32768) + x3) + x4) - 1).toNatClampNeg), .int 32]) (st := st) d_Mo_send_107 i_Mo_put (fun h => absurd h (by decide +kernel)) cw_Mo_123 rfl rfl ⟨hw1.1, 11, _, _, hw1.2, rfl, rfl⟩ rfl (Nat.le_of_ble_eq_true rfl) h8 k
theorem t_Mo_send_110 {d : Nat} {st : List Value} {o0 : Option Value} {o1 : Option Value} {o2 : Option Value} {o3 : Option Value} {o4 : Option Value} {o5 : Option Value} {o6 : Option Value} {o7 : Option Value} {o8 : Option Value} {w : qk_W} {nc ns : Nat} {Q : Option Value ⊕ Nat → qk_W → Nat → Nat → Prop}  (hc1 : qk_c2 [o0, o1, o2, o3, o4, o5, o6, o7, o8] 5 = true) (k : Ev d m_Mo_send 113 [o0, o1, o2, o3, o4, some (.int 1), o6, o7, o8] st w nc ns Q) : Ev d m_Mo_send 110 [o0, o1, o2, o3, o4, o5, o6, o7, o8] st w nc ns Q := by
  refine ev_iconst 1 d_Mo_send_110 (by decide) ?_
  refine ev_istore d_Mo_send_111 (by decide) hc1 ?_
  exact k
theorem t_Mo_send_113 {d : Nat} {st : List Value} {o0 : Option Value} {o1 : Option Value} {o2 : Option Value} {o3 : Option Value} {x4 : Int32} {x5 : Int32} {o6 : Option Value} {o7 : Option Value} {o8 : Option Value} {w : qk_W} {nc ns : Nat} {Q : Option Value ⊕ Nat → qk_W → Nat → Nat → Prop}   (kt : x4 ≤ x5 → Ev d m_Mo_send 205 [o0, o1, o2, o3, some (.int x4), some (.int x5), o6, o7, o8] st w nc ns Q) (kf : ¬ (x4 ≤ x5) → Ev d m_Mo_send 120 [o0, o1, o2, o3, some (.int x4), some (.int x5), o6, o7, o8] st w nc ns Q) : Ev d m_Mo_send 113 [o0, o1, o2, o3, some (.int x4), some (.int x5), o6, o7, o8] st w nc ns Q := by
  refine ev_iload d_Mo_send_113 rfl ?_
  refine ev_iload d_Mo_send_115 rfl ?_
  exact ev_icmp_ge 205 d_Mo_send_117 (by decide) kt kf
theorem t_Mo_send_120 {d : Nat} {st : List Value} {o0 : Option Value} {o1 : Option Value} {o2 : Option Value} {o3 : Option Value} {x4 : Int32} {x5 : Int32} {o6 : Option Value} {o7 : Option Value} {o8 : Option Value} {w : qk_W} {nc ns : Nat} {Q : Option Value ⊕ Nat → qk_W → Nat → Nat → Prop}   (kt : (x4 - 1) ≤ (x5 + 14) → Ev d m_Mo_send 140 [o0, o1, o2, o3, some (.int x4), some (.int x5), o6, o7, o8] st w nc ns Q) (kf : ¬ ((x4 - 1) ≤ (x5 + 14)) → Ev d m_Mo_send 132 [o0, o1, o2, o3, some (.int x4), some (.int x5), o6, o7, o8] st w nc ns Q) : Ev d m_Mo_send 120 [o0, o1, o2, o3, some (.int x4), some (.int x5), o6, o7, o8] st w nc ns Q := by
  refine ev_iload d_Mo_send_120 rfl ?_
  refine ev_bipush 14 d_Mo_send_122 (by decide) ?_
  refine ev_iadd d_Mo_send_124 ?_
  refine ev_iload d_Mo_send_125 rfl ?_
  refine ev_iconst 1 d_Mo_send_127 (by decide) ?_
  refine ev_isub d_Mo_send_128 ?_
  exact ev_icmp_ge 140 d_Mo_send_129 (by decide) kt kf
theorem t_Mo_send_132 {d : Nat} {st : List Value} {a0 : Nat} {o1 : Option Value} {x2 : Int32} {x3 : Int32} {o4 : Option Value} {x5 : Int32} {o6 : Option Value} {o7 : Option Value} {o8 : Option Value} {fsb : List Value} {w : qk_W} {nc ns : Nat} {Q : Option Value ⊕ Nat → qk_W → Nat → Nat → Prop}  (hb : wo w a0 11 fsb) (h8 : (st.map fun v => Value.category v).sum ≤ 8) (k : Ev d m_Mo_least 0 [some (.ref a0), some (.int x2), some (.int x3), some (.int x5), some (.int (x5 + 14)), none, none, none] [] w nc ns (fun r w1 nc1 ns1 => match r with | .inl v => Ev (d + 1) m_Mo_send 156 [some (.ref a0), o1, some (.int x2), some (.int x3), o4, some (.int x5), some (.int (x5 + 14)), o7, o8] (v.toList ++ st) w1 nc1 ns1 Q | .inr x => Q (.inr x) w1 nc1 ns1)) : Ev (d + 1) m_Mo_send 132 [some (.ref a0), o1, some (.int x2), some (.int x3), o4, some (.int x5), o6, o7, o8] st w nc ns Q := by
  refine ev_iload d_Mo_send_132 rfl ?_
  refine ev_bipush 14 d_Mo_send_134 (by decide) ?_
  refine ev_iadd d_Mo_send_136 ?_
  refine ev_goto 144 d_Mo_send_137 (by decide) ?_
  refine ev_istore d_Mo_send_144 (by decide) rfl ?_
  refine ev_aload_n d_Mo_send_146 rfl rfl ?_
  refine ev_iload_n d_Mo_send_147 rfl ?_
  refine ev_iload_n d_Mo_send_148 rfl ?_
  refine ev_iload d_Mo_send_149 rfl ?_
  refine ev_iload d_Mo_send_151 rfl ?_
  exact ev_call (M' := m_Mo_least) (As := [.ref a0, .int x2, .int x3, .int x5, .int (x5 + 14)]) (st := st) d_Mo_send_153 i_Mo_least (fun h => absurd h (by decide +kernel)) cw_Mo_84 rfl rfl ⟨hb.1, 11, _, _, hb.2, rfl, rfl⟩ rfl (Nat.le_of_ble_eq_true rfl) h8 k
theorem t_Mo_send_140 {d : Nat} {st : List Value} {a0 : Nat} {o1 : Option Value} {x2 : Int32} {x3 : Int32} {x4 : Int32} {x5 : Int32} {o6 : Option Value} {o7 : Option Value} {o8 : Option Value} {fsb : List Value} {w : qk_W} {nc ns : Nat} {Q : Option Value ⊕ Nat → qk_W → Nat → Nat → Prop}  (hc1 : qk_c2 [some (.ref a0), o1, some (.int x2), some (.int x3), some (.int x4), some (.int x5), o6, o7, o8] 6 = true) (hb : wo w a0 11 fsb) (h8 : (st.map fun v => Value.category v).sum ≤ 8) (k : Ev d m_Mo_least 0 [some (.ref a0), some (.int x2), some (.int x3), some (.int x5), some (.int (x4 - 1)), none, none, none] [] w nc ns (fun r w1 nc1 ns1 => match r with | .inl v => Ev (d + 1) m_Mo_send 156 [some (.ref a0), o1, some (.int x2), some (.int x3), some (.int x4), some (.int x5), some (.int (x4 - 1)), o7, o8] (v.toList ++ st) w1 nc1 ns1 Q | .inr x => Q (.inr x) w1 nc1 ns1)) : Ev (d + 1) m_Mo_send 140 [some (.ref a0), o1, some (.int x2), some (.int x3), some (.int x4), some (.int x5), o6, o7, o8] st w nc ns Q := by
  refine ev_iload d_Mo_send_140 rfl ?_
  refine ev_iconst 1 d_Mo_send_142 (by decide) ?_
  refine ev_isub d_Mo_send_143 ?_
  refine ev_istore d_Mo_send_144 (by decide) hc1 ?_
  refine ev_aload_n d_Mo_send_146 rfl rfl ?_
  refine ev_iload_n d_Mo_send_147 rfl ?_
  refine ev_iload_n d_Mo_send_148 rfl ?_
  refine ev_iload d_Mo_send_149 rfl ?_
  refine ev_iload d_Mo_send_151 rfl ?_
  exact ev_call (M' := m_Mo_least) (As := [.ref a0, .int x2, .int x3, .int x5, .int (x4 - 1)]) (st := st) d_Mo_send_153 i_Mo_least (fun h => absurd h (by decide +kernel)) cw_Mo_84 rfl rfl ⟨hb.1, 11, _, _, hb.2, rfl, rfl⟩ rfl (Nat.le_of_ble_eq_true rfl) h8 k
theorem t_Mo_send_156 {d : Nat} {st : List Value} {a0 : Nat} {o1 : Option Value} {o2 : Option Value} {o3 : Option Value} {o4 : Option Value} {o5 : Option Value} {o6 : Option Value} {o7 : Option Value} {o8 : Option Value} {y0 : Int32} {fsb : List Value} {w : qk_W} {nc ns : Nat} {Q : Option Value ⊕ Nat → qk_W → Nat → Nat → Prop}  (hc1 : qk_c2 [some (.ref a0), o1, o2, o3, o4, o5, o6, o7, o8] 7 = true) (hb : wo w a0 11 fsb) (h8 : (st.map fun v => Value.category v).sum ≤ 8) (k : Ev d m_Mo_put 0 [some (.ref a0), some (.int y0), some (.int 4), none, none] [] w nc ns (fun r w1 nc1 ns1 => match r with | .inl v => Ev (d + 1) m_Mo_send 165 [some (.ref a0), o1, o2, o3, o4, o5, o6, some (.int y0), o8] (v.toList ++ st) w1 nc1 ns1 Q | .inr x => Q (.inr x) w1 nc1 ns1)) : Ev (d + 1) m_Mo_send 156 [some (.ref a0), o1, o2, o3, o4, o5, o6, o7, o8] (.int y0 :: st) w nc ns Q := by
  refine ev_istore d_Mo_send_156 (by decide) hc1 ?_
  refine ev_aload_n d_Mo_send_158 rfl rfl ?_
  refine ev_iload d_Mo_send_159 rfl ?_
  refine ev_iconst 4 d_Mo_send_161 (by decide) ?_
  exact ev_call (M' := m_Mo_put) (As := [.ref a0, .int y0, .int 4]) (st := st) d_Mo_send_162 i_Mo_put (fun h => absurd h (by decide +kernel)) cw_Mo_123 rfl rfl ⟨hb.1, 11, _, _, hb.2, rfl, rfl⟩ rfl (Nat.le_of_ble_eq_true rfl) h8 k
theorem t_Mo_send_165 {d : Nat} {st : List Value} {o0 : Option Value} {o1 : Option Value} {o2 : Option Value} {o3 : Option Value} {o4 : Option Value} {x5 : Int32} {o6 : Option Value} {o7 : Option Value} {o8 : Option Value} {w : qk_W} {nc ns : Nat} {Q : Option Value ⊕ Nat → qk_W → Nat → Nat → Prop}  (hc1 : qk_c2 [o0, o1, o2, o3, o4, some (.int x5), o6, o7, o8] 8 = true) (k : Ev d m_Mo_send 169 [o0, o1, o2, o3, o4, some (.int x5), o6, o7, some (.int x5)] st w nc ns Q) : Ev d m_Mo_send 165 [o0, o1, o2, o3, o4, some (.int x5), o6, o7, o8] st w nc ns Q := by
  refine ev_iload d_Mo_send_165 rfl ?_
  refine ev_istore d_Mo_send_167 (by decide) hc1 ?_
  exact k
theorem t_Mo_send_169 {d : Nat} {st : List Value} {o0 : Option Value} {o1 : Option Value} {o2 : Option Value} {o3 : Option Value} {o4 : Option Value} {o5 : Option Value} {x6 : Int32} {o7 : Option Value} {x8 : Int32} {w : qk_W} {nc ns : Nat} {Q : Option Value ⊕ Nat → qk_W → Nat → Nat → Prop}   (kt : x6 < x8 → Ev d m_Mo_send 199 [o0, o1, o2, o3, o4, o5, some (.int x6), o7, some (.int x8)] st w nc ns Q) (kf : ¬ (x6 < x8) → Ev d m_Mo_send 176 [o0, o1, o2, o3, o4, o5, some (.int x6), o7, some (.int x8)] st w nc ns Q) : Ev d m_Mo_send 169 [o0, o1, o2, o3, o4, o5, some (.int x6), o7, some (.int x8)] st w nc ns Q := by
  refine ev_iload d_Mo_send_169 rfl ?_
  refine ev_iload d_Mo_send_171 rfl ?_
  exact ev_icmp_gt 199 d_Mo_send_173 (by decide) kt kf
theorem t_Mo_send_176 {d : Nat} {st : List Value} {a0 : Nat} {o1 : Option Value} {x2 : Int32} {x3 : Int32} {o4 : Option Value} {o5 : Option Value} {o6 : Option Value} {o7 : Option Value} {x8 : Int32} {fsb : List Value} {w : qk_W} {nc ns : Nat} {Q : Option Value ⊕ Nat → qk_W → Nat → Nat → Prop}  (hb : wo w a0 11 fsb) (h8 : ((.ref a0 :: st).map fun v => Value.category v).sum ≤ 8) (k : Ev d m_Mo_difference 0 [some (.ref a0), some (.int x2), some (.int x3), some (.int x8), none, none] [] w nc ns (fun r w1 nc1 ns1 => match r with | .inl v => Ev (d + 1) m_Mo_send 185 [some (.ref a0), o1, some (.int x2), some (.int x3), o4, o5, o6, o7, some (.int x8)] (v.toList ++ (.ref a0 :: st)) w1 nc1 ns1 Q | .inr x => Q (.inr x) w1 nc1 ns1)) : Ev (d + 1) m_Mo_send 176 [some (.ref a0), o1, some (.int x2), some (.int x3), o4, o5, o6, o7, some (.int x8)] st w nc ns Q := by
  refine ev_aload_n d_Mo_send_176 rfl rfl ?_
  refine ev_aload_n d_Mo_send_177 rfl rfl ?_
  refine ev_iload_n d_Mo_send_178 rfl ?_
  refine ev_iload_n d_Mo_send_179 rfl ?_
  refine ev_iload d_Mo_send_180 rfl ?_
  exact ev_call (M' := m_Mo_difference) (As := [.ref a0, .int x2, .int x3, .int x8]) (st := (.ref a0 :: st)) d_Mo_send_182 i_Mo_difference (fun h => absurd h (by decide +kernel)) cw_Mo_72 rfl rfl ⟨hb.1, 11, _, _, hb.2, rfl, rfl⟩ rfl (Nat.le_of_ble_eq_true rfl) h8 k
theorem t_Mo_send_185 {d : Nat} {st : List Value} {o0 : Option Value} {o1 : Option Value} {o2 : Option Value} {o3 : Option Value} {o4 : Option Value} {o5 : Option Value} {o6 : Option Value} {x7 : Int32} {o8 : Option Value} {w : qk_W} {nc ns : Nat} {Q : Option Value ⊕ Nat → qk_W → Nat → Nat → Prop}  (h8 : (st.map fun v => Value.category v).sum ≤ 8) (k : Ev d m_Mo_widthOf 0 [some (.int x7)] [] w nc ns (fun r w1 nc1 ns1 => match r with | .inl v => Ev (d + 1) m_Mo_send 190 [o0, o1, o2, o3, o4, o5, o6, some (.int x7), o8] (v.toList ++ st) w1 nc1 ns1 Q | .inr x => Q (.inr x) w1 nc1 ns1)) : Ev (d + 1) m_Mo_send 185 [o0, o1, o2, o3, o4, o5, o6, some (.int x7), o8] st w nc ns Q := by
  refine ev_iload d_Mo_send_185 rfl ?_
  exact ev_call (M' := m_Mo_widthOf) (As := [.int x7]) (st := st) d_Mo_send_187 i_Mo_widthOf (fun h => absurd h (by decide +kernel)) cw_Mo_76 rfl rfl trivial rfl (Nat.le_of_ble_eq_true rfl) h8 k
theorem t_Mo_send_190 {d : Nat} {st : List Value} {o0 : Option Value} {o1 : Option Value} {o2 : Option Value} {o3 : Option Value} {o4 : Option Value} {o5 : Option Value} {o6 : Option Value} {o7 : Option Value} {o8 : Option Value} {y0 : Int32} {y1 : Int32} {b2 : Nat} {fsb : List Value} {w : qk_W} {nc ns : Nat} {Q : Option Value ⊕ Nat → qk_W → Nat → Nat → Prop}  (hb : wo w b2 11 fsb) (h8 : (st.map fun v => Value.category v).sum ≤ 8) (k : Ev d m_Mo_put 0 [some (.ref b2), some (.int y1), some (.int y0), none, none] [] w nc ns (fun r w1 nc1 ns1 => match r with | .inl v => Ev (d + 1) m_Mo_send 193 [o0, o1, o2, o3, o4, o5, o6, o7, o8] (v.toList ++ st) w1 nc1 ns1 Q | .inr x => Q (.inr x) w1 nc1 ns1)) : Ev (d + 1) m_Mo_send 190 [o0, o1, o2, o3, o4, o5, o6, o7, o8] (.int y0 :: .int y1 :: .ref b2 :: st) w nc ns Q := by
  exact ev_call (M' := m_Mo_put) (As := [.ref b2, .int y1, .int y0]) (st := st) d_Mo_send_190 i_Mo_put (fun h => absurd h (by decide +kernel)) cw_Mo_123 rfl rfl ⟨hb.1, 11, _, _, hb.2, rfl, rfl⟩ rfl (Nat.le_of_ble_eq_true rfl) h8 k
theorem t_Mo_send_193 {d : Nat} {st : List Value} {o0 : Option Value} {o1 : Option Value} {o2 : Option Value} {o3 : Option Value} {o4 : Option Value} {o5 : Option Value} {o6 : Option Value} {o7 : Option Value} {x8 : Int32} {w : qk_W} {nc ns : Nat} {Q : Option Value ⊕ Nat → qk_W → Nat → Nat → Prop}  (hc1 : qk_c2 [o0, o1, o2, o3, o4, o5, o6, o7, some (.int x8)] 8 = true) (k : Ev d m_Mo_send 169 [o0, o1, o2, o3, o4, o5, o6, o7, some (.int (x8 + 1))] st w nc ns Q) : Ev d m_Mo_send 193 [o0, o1, o2, o3, o4, o5, o6, o7, some (.int x8)] st w nc ns Q := by
  refine ev_iinc 1 d_Mo_send_193 (by decide) rfl (by decide) hc1 ?_
  refine ev_goto 169 d_Mo_send_196 (by decide) ?_
  exact k
theorem t_Mo_send_199 {d : Nat} {st : List Value} {o0 : Option Value} {o1 : Option Value} {o2 : Option Value} {o3 : Option Value} {o4 : Option Value} {x5 : Int32} {o6 : Option Value} {o7 : Option Value} {o8 : Option Value} {w : qk_W} {nc ns : Nat} {Q : Option Value ⊕ Nat → qk_W → Nat → Nat → Prop}  (hc1 : qk_c2 [o0, o1, o2, o3, o4, some (.int x5), o6, o7, o8] 5 = true) (k : Ev d m_Mo_send 113 [o0, o1, o2, o3, o4, some (.int (x5 + 15)), o6, o7, o8] st w nc ns Q) : Ev d m_Mo_send 199 [o0, o1, o2, o3, o4, some (.int x5), o6, o7, o8] st w nc ns Q := by
  refine ev_iinc 15 d_Mo_send_199 (by decide) rfl (by decide) hc1 ?_
  refine ev_goto 113 d_Mo_send_202 (by decide) ?_
  exact k
theorem t_Mo_send_205 {d : Nat} {st : List Value} {a0 : Nat} {o1 : Option Value} {o2 : Option Value} {o3 : Option Value} {o4 : Option Value} {o5 : Option Value} {o6 : Option Value} {o7 : Option Value} {o8 : Option Value} {fsb : List Value} {w : qk_W} {nc ns : Nat} {Q : Option Value ⊕ Nat → qk_W → Nat → Nat → Prop}  (hb : wo w a0 11 fsb) (h8 : (st.map fun v => Value.category v).sum ≤ 8) (k : Ev d m_Mo_end 0 [some (.ref a0)] [] w nc ns (fun r w1 nc1 ns1 => match r with | .inl v => Ev (d + 1) m_Mo_send 209 [some (.ref a0), o1, o2, o3, o4, o5, o6, o7, o8] (v.toList ++ st) w1 nc1 ns1 Q | .inr x => Q (.inr x) w1 nc1 ns1)) : Ev (d + 1) m_Mo_send 205 [some (.ref a0), o1, o2, o3, o4, o5, o6, o7, o8] st w nc ns Q := by
  refine ev_aload_n d_Mo_send_205 rfl rfl ?_
  exact ev_call (M' := m_Mo_end) (As := [.ref a0]) (st := st) d_Mo_send_206 i_Mo_end (fun h => absurd h (by decide +kernel)) cw_Mo_132 rfl rfl ⟨hb.1, 11, _, _, hb.2, rfl, rfl⟩ rfl (Nat.le_of_ble_eq_true rfl) h8 k
theorem t_Mo_send_209 {d : Nat} {o0 : Option Value} {o1 : Option Value} {o2 : Option Value} {o3 : Option Value} {o4 : Option Value} {o5 : Option Value} {o6 : Option Value} {o7 : Option Value} {o8 : Option Value} {y0 : Int32} {w : qk_W} {nc ns : Nat} {Q : Option Value ⊕ Nat → qk_W → Nat → Nat → Prop}   (hq : Q (.inl (some (.int y0))) w nc ns) : Ev d m_Mo_send 209 [o0, o1, o2, o3, o4, o5, o6, o7, o8] [.int y0] w nc ns Q := by
  exact ev_iret d_Mo_send_209 rfl rfl hq
/-! Mo_begin -/
theorem fl_Mo_109 : qk_fl "QuakeLinkModel" 109 11 17 := ⟨_, rfl, by decide, rfl, (lw_i4 _ (List.mem_of_getElem? (i := 193) rfl))⟩
theorem fl_Mo_112 : qk_fl "QuakeLinkModel" 112 11 24 := ⟨_, rfl, by decide, rfl, (lw_i4 _ (List.mem_of_getElem? (i := 200) rfl))⟩
theorem fl_Mo_115 : qk_fl "QuakeLinkModel" 115 11 25 := ⟨_, rfl, by decide, rfl, (lw_i4 _ (List.mem_of_getElem? (i := 201) rfl))⟩
theorem d_Mo_begin_0 : decode m_Mo_begin.2.1 0 = .ok (.aload_n 0, 1) := by decide +kernel
theorem d_Mo_begin_1 : decode m_Mo_begin.2.1 1 = .ok (.aload_n 0, 1) := by decide +kernel
theorem d_Mo_begin_2 : decode m_Mo_begin.2.1 2 = .ok (.getfield 109, 3) := by decide +kernel
theorem d_Mo_begin_5 : decode m_Mo_begin.2.1 5 = .ok (.bipush 64, 2) := by decide +kernel
theorem d_Mo_begin_7 : decode m_Mo_begin.2.1 7 = .ok (.irem, 1) := by decide +kernel
theorem d_Mo_begin_8 : decode m_Mo_begin.2.1 8 = .ok (.putfield 112, 3) := by decide +kernel
theorem d_Mo_begin_11 : decode m_Mo_begin.2.1 11 = .ok (.aload_n 0, 1) := by decide +kernel
theorem d_Mo_begin_12 : decode m_Mo_begin.2.1 12 = .ok (.getfield 54, 3) := by decide +kernel
theorem d_Mo_begin_15 : decode m_Mo_begin.2.1 15 = .ok (.aload_n 0, 1) := by decide +kernel
theorem d_Mo_begin_16 : decode m_Mo_begin.2.1 16 = .ok (.getfield 112, 3) := by decide +kernel
theorem d_Mo_begin_19 : decode m_Mo_begin.2.1 19 = .ok (.iconst 0, 1) := by decide +kernel
theorem d_Mo_begin_20 : decode m_Mo_begin.2.1 20 = .ok (.bastore, 1) := by decide +kernel
theorem d_Mo_begin_21 : decode m_Mo_begin.2.1 21 = .ok (.iconst 0, 1) := by decide +kernel
theorem d_Mo_begin_22 : decode m_Mo_begin.2.1 22 = .ok (.istore_n 1, 1) := by decide +kernel
theorem d_Mo_begin_23 : decode m_Mo_begin.2.1 23 = .ok (.iload_n 1, 1) := by decide +kernel
theorem d_Mo_begin_24 : decode m_Mo_begin.2.1 24 = .ok (.sipush 512, 3) := by decide +kernel
theorem d_Mo_begin_27 : decode m_Mo_begin.2.1 27 = .ok (.if_icmp .ge 25, 3) := by decide +kernel
theorem d_Mo_begin_30 : decode m_Mo_begin.2.1 30 = .ok (.aload_n 0, 1) := by decide +kernel
theorem d_Mo_begin_31 : decode m_Mo_begin.2.1 31 = .ok (.getfield 47, 3) := by decide +kernel
theorem d_Mo_begin_34 : decode m_Mo_begin.2.1 34 = .ok (.sipush 512, 3) := by decide +kernel
theorem d_Mo_begin_37 : decode m_Mo_begin.2.1 37 = .ok (.aload_n 0, 1) := by decide +kernel
theorem d_Mo_begin_38 : decode m_Mo_begin.2.1 38 = .ok (.getfield 112, 3) := by decide +kernel
theorem d_Mo_begin_41 : decode m_Mo_begin.2.1 41 = .ok (.imul, 1) := by decide +kernel
theorem d_Mo_begin_42 : decode m_Mo_begin.2.1 42 = .ok (.iload_n 1, 1) := by decide +kernel
theorem d_Mo_begin_43 : decode m_Mo_begin.2.1 43 = .ok (.iadd, 1) := by decide +kernel
theorem d_Mo_begin_44 : decode m_Mo_begin.2.1 44 = .ok (.iconst 0, 1) := by decide +kernel
theorem d_Mo_begin_45 : decode m_Mo_begin.2.1 45 = .ok (.bastore, 1) := by decide +kernel
theorem d_Mo_begin_46 : decode m_Mo_begin.2.1 46 = .ok (.iinc 1 1, 3) := by decide +kernel
theorem d_Mo_begin_49 : decode m_Mo_begin.2.1 49 = .ok (.goto (-26), 3) := by decide +kernel
theorem d_Mo_begin_52 : decode m_Mo_begin.2.1 52 = .ok (.aload_n 0, 1) := by decide +kernel
theorem d_Mo_begin_53 : decode m_Mo_begin.2.1 53 = .ok (.iconst 0, 1) := by decide +kernel
theorem d_Mo_begin_54 : decode m_Mo_begin.2.1 54 = .ok (.putfield 115, 3) := by decide +kernel
theorem d_Mo_begin_57 : decode m_Mo_begin.2.1 57 = .ok (.return_, 1) := by decide +kernel
theorem t_Mo_begin_0 {d : Nat} {st : List Value} {a0 : Nat} {o1 : Option Value} {fs2 : List Value} {n4 : Int32} {w : qk_W} {nc ns : Nat} {Q : Option Value ⊕ Nat → qk_W → Nat → Nat → Prop}  (hw1 : wo w a0 11 fs2) (hf3 : fs2[17]? = some (.int n4)) (hk : 24 < fs2.length) (k : Ev d m_Mo_begin 11 [some (.ref a0), o1] st (qk_set w a0 (.inr (11, fs2.set 24 (.int (qi_rem n4 64))))) nc ns Q) : Ev d m_Mo_begin 0 [some (.ref a0), o1] st w nc ns Q := by
  refine ev_aload_n d_Mo_begin_0 rfl rfl ?_
  refine ev_aload_n d_Mo_begin_1 rfl rfl ?_
  refine ev_getf d_Mo_begin_2 fl_Mo_109 hw1.1 hw1.2 hf3 ?_
  refine ev_bipush 64 d_Mo_begin_5 (by decide) ?_
  refine ev_irem d_Mo_begin_7 (by decide) ?_
  exact ev_putf d_Mo_begin_8 fl_Mo_112 rfl hw1.1 hw1.2 hk (qk_fitI _) k
theorem t_Mo_begin_11 {d : Nat} {st : List Value} {a0 : Nat} {o1 : Option Value} {fs2 : List Value} {c4 : Nat} {n8 : Int32} {n10 : Nat} {f11 : Nat → Int32} {w : qk_W} {nc ns : Nat} {Q : Option Value ⊕ Nat → qk_W → Nat → Nat → Prop}  (hw1 : wo w a0 11 fs2) (hf3 : fs2[16]? = some (.ref c4)) (hf7 : fs2[24]? = some (.int n8)) (ha9 : wz w c4 n10 f11) (hi : vp_in n8 n10) (k : Ev d m_Mo_begin 21 [some (.ref a0), o1] st (qk_set w c4 (.inl (.boolean, n10, .inl (upd f11 n8.toNatClampNeg 0)))) nc ns Q) : Ev d m_Mo_begin 11 [some (.ref a0), o1] st w nc ns Q := by
  refine ev_aload_n d_Mo_begin_11 rfl rfl ?_
  refine ev_getf d_Mo_begin_12 fl_Mo_54 hw1.1 hw1.2 hf3 ?_
  refine ev_aload_n d_Mo_begin_15 rfl rfl ?_
  refine ev_getf d_Mo_begin_16 fl_Mo_112 hw1.1 hw1.2 hf7 ?_
  refine ev_iconst 0 d_Mo_begin_19 (by decide) ?_
  exact ev_zast d_Mo_begin_20 ha9.1 ha9.2 hi rfl k
theorem t_Mo_begin_21 {d : Nat} {st : List Value} {o0 : Option Value} {o1 : Option Value} {w : qk_W} {nc ns : Nat} {Q : Option Value ⊕ Nat → qk_W → Nat → Nat → Prop}  (hc1 : qk_c2 [o0, o1] 1 = true) (k : Ev d m_Mo_begin 23 [o0, some (.int 0)] st w nc ns Q) : Ev d m_Mo_begin 21 [o0, o1] st w nc ns Q := by
  refine ev_iconst 0 d_Mo_begin_21 (by decide) ?_
  refine ev_istore_n d_Mo_begin_22 (by decide) hc1 ?_
  exact k
theorem t_Mo_begin_23 {d : Nat} {st : List Value} {o0 : Option Value} {x1 : Int32} {w : qk_W} {nc ns : Nat} {Q : Option Value ⊕ Nat → qk_W → Nat → Nat → Prop}   (kt : (512 : Int32) ≤ x1 → Ev d m_Mo_begin 52 [o0, some (.int x1)] st w nc ns Q) (kf : ¬ ((512 : Int32) ≤ x1) → Ev d m_Mo_begin 30 [o0, some (.int x1)] st w nc ns Q) : Ev d m_Mo_begin 23 [o0, some (.int x1)] st w nc ns Q := by
  refine ev_iload_n d_Mo_begin_23 rfl ?_
  refine ev_sipush 512 d_Mo_begin_24 (by decide) ?_
  exact ev_icmp_ge 52 d_Mo_begin_27 (by decide) kt kf
theorem t_Mo_begin_30 {d : Nat} {st : List Value} {a0 : Nat} {x1 : Int32} {fs2 : List Value} {c4 : Nat} {n8 : Int32} {n10 : Nat} {f11 : Nat → Int32} {w : qk_W} {nc ns : Nat} {Q : Option Value ⊕ Nat → qk_W → Nat → Nat → Prop}  (hw1 : wo w a0 11 fs2) (hf3 : fs2[14]? = some (.ref c4)) (hf7 : fs2[24]? = some (.int n8)) (ha9 : wb w c4 n10 f11) (hi : vp_in ((512 * n8) + x1) n10) (k : Ev d m_Mo_begin 46 [some (.ref a0), some (.int x1)] st (qk_set w c4 (.inl (.byte, n10, .inl (upd f11 ((512 * n8) + x1).toNatClampNeg (Int32.toInt8 0).toInt32)))) nc ns Q) : Ev d m_Mo_begin 30 [some (.ref a0), some (.int x1)] st w nc ns Q := by
  refine ev_aload_n d_Mo_begin_30 rfl rfl ?_
  refine ev_getf d_Mo_begin_31 fl_Mo_47 hw1.1 hw1.2 hf3 ?_
  refine ev_sipush 512 d_Mo_begin_34 (by decide) ?_
  refine ev_aload_n d_Mo_begin_37 rfl rfl ?_
  refine ev_getf d_Mo_begin_38 fl_Mo_112 hw1.1 hw1.2 hf7 ?_
  refine ev_imul d_Mo_begin_41 ?_
  refine ev_iload_n d_Mo_begin_42 rfl ?_
  refine ev_iadd d_Mo_begin_43 ?_
  refine ev_iconst 0 d_Mo_begin_44 (by decide) ?_
  exact ev_bast d_Mo_begin_45 ha9.1 ha9.2 hi k
theorem t_Mo_begin_46 {d : Nat} {st : List Value} {o0 : Option Value} {x1 : Int32} {w : qk_W} {nc ns : Nat} {Q : Option Value ⊕ Nat → qk_W → Nat → Nat → Prop}  (hc1 : qk_c2 [o0, some (.int x1)] 1 = true) (k : Ev d m_Mo_begin 23 [o0, some (.int (x1 + 1))] st w nc ns Q) : Ev d m_Mo_begin 46 [o0, some (.int x1)] st w nc ns Q := by
  refine ev_iinc 1 d_Mo_begin_46 (by decide) rfl (by decide) hc1 ?_
  refine ev_goto 23 d_Mo_begin_49 (by decide) ?_
  exact k
theorem t_Mo_begin_52 {d : Nat} {st : List Value} {a0 : Nat} {o1 : Option Value} {fs2 : List Value} {w : qk_W} {nc ns : Nat} {Q : Option Value ⊕ Nat → qk_W → Nat → Nat → Prop}  (hw1 : wo w a0 11 fs2) (hk : 25 < fs2.length) (k : Ev d m_Mo_begin 57 [some (.ref a0), o1] st (qk_set w a0 (.inr (11, fs2.set 25 (.int 0)))) nc ns Q) : Ev d m_Mo_begin 52 [some (.ref a0), o1] st w nc ns Q := by
  refine ev_aload_n d_Mo_begin_52 rfl rfl ?_
  refine ev_iconst 0 d_Mo_begin_53 (by decide) ?_
  exact ev_putf d_Mo_begin_54 fl_Mo_115 rfl hw1.1 hw1.2 hk (qk_fitI _) k
theorem t_Mo_begin_57 {d : Nat} {o0 : Option Value} {o1 : Option Value} {w : qk_W} {nc ns : Nat} {Q : Option Value ⊕ Nat → qk_W → Nat → Nat → Prop}   (hq : Q (.inl none) w nc ns) : Ev d m_Mo_begin 57 [o0, o1] [] w nc ns Q := by
  exact ev_vret d_Mo_begin_57 rfl hq
/-! Mo_put -/
theorem d_Mo_put_0 : decode m_Mo_put.2.1 0 = .ok (.iload_n 2, 1) := by decide +kernel
theorem d_Mo_put_1 : decode m_Mo_put.2.1 1 = .ok (.iconst 1, 1) := by decide +kernel
theorem d_Mo_put_2 : decode m_Mo_put.2.1 2 = .ok (.isub, 1) := by decide +kernel
theorem d_Mo_put_3 : decode m_Mo_put.2.1 3 = .ok (.istore_n 3, 1) := by decide +kernel
theorem d_Mo_put_4 : decode m_Mo_put.2.1 4 = .ok (.iload_n 3, 1) := by decide +kernel
theorem d_Mo_put_5 : decode m_Mo_put.2.1 5 = .ok (.ifCond .lt 69, 3) := by decide +kernel
theorem d_Mo_put_8 : decode m_Mo_put.2.1 8 = .ok (.sipush 512, 3) := by decide +kernel
theorem d_Mo_put_11 : decode m_Mo_put.2.1 11 = .ok (.aload_n 0, 1) := by decide +kernel
theorem d_Mo_put_12 : decode m_Mo_put.2.1 12 = .ok (.getfield 112, 3) := by decide +kernel
theorem d_Mo_put_15 : decode m_Mo_put.2.1 15 = .ok (.imul, 1) := by decide +kernel
theorem d_Mo_put_16 : decode m_Mo_put.2.1 16 = .ok (.aload_n 0, 1) := by decide +kernel
theorem d_Mo_put_17 : decode m_Mo_put.2.1 17 = .ok (.getfield 115, 3) := by decide +kernel
theorem d_Mo_put_20 : decode m_Mo_put.2.1 20 = .ok (.bipush 8, 2) := by decide +kernel
theorem d_Mo_put_22 : decode m_Mo_put.2.1 22 = .ok (.idiv, 1) := by decide +kernel
theorem d_Mo_put_23 : decode m_Mo_put.2.1 23 = .ok (.iadd, 1) := by decide +kernel
theorem d_Mo_put_24 : decode m_Mo_put.2.1 24 = .ok (.istore 4, 2) := by decide +kernel
theorem d_Mo_put_26 : decode m_Mo_put.2.1 26 = .ok (.aload_n 0, 1) := by decide +kernel
theorem d_Mo_put_27 : decode m_Mo_put.2.1 27 = .ok (.getfield 47, 3) := by decide +kernel
theorem d_Mo_put_30 : decode m_Mo_put.2.1 30 = .ok (.iload 4, 2) := by decide +kernel
theorem d_Mo_put_32 : decode m_Mo_put.2.1 32 = .ok (.aload_n 0, 1) := by decide +kernel
theorem d_Mo_put_33 : decode m_Mo_put.2.1 33 = .ok (.getfield 47, 3) := by decide +kernel
theorem d_Mo_put_36 : decode m_Mo_put.2.1 36 = .ok (.iload 4, 2) := by decide +kernel
theorem d_Mo_put_38 : decode m_Mo_put.2.1 38 = .ok (.baload, 1) := by decide +kernel
theorem d_Mo_put_39 : decode m_Mo_put.2.1 39 = .ok (.iload_n 1, 1) := by decide +kernel
theorem d_Mo_put_40 : decode m_Mo_put.2.1 40 = .ok (.iload_n 3, 1) := by decide +kernel
theorem d_Mo_put_41 : decode m_Mo_put.2.1 41 = .ok (.ishr, 1) := by decide +kernel
theorem d_Mo_put_42 : decode m_Mo_put.2.1 42 = .ok (.iconst 1, 1) := by decide +kernel
theorem d_Mo_put_43 : decode m_Mo_put.2.1 43 = .ok (.iand, 1) := by decide +kernel
theorem d_Mo_put_44 : decode m_Mo_put.2.1 44 = .ok (.bipush 7, 2) := by decide +kernel
theorem d_Mo_put_46 : decode m_Mo_put.2.1 46 = .ok (.aload_n 0, 1) := by decide +kernel
theorem d_Mo_put_47 : decode m_Mo_put.2.1 47 = .ok (.getfield 115, 3) := by decide +kernel
theorem d_Mo_put_50 : decode m_Mo_put.2.1 50 = .ok (.bipush 8, 2) := by decide +kernel
theorem d_Mo_put_52 : decode m_Mo_put.2.1 52 = .ok (.irem, 1) := by decide +kernel
theorem d_Mo_put_53 : decode m_Mo_put.2.1 53 = .ok (.isub, 1) := by decide +kernel
theorem d_Mo_put_54 : decode m_Mo_put.2.1 54 = .ok (.ishl, 1) := by decide +kernel
theorem d_Mo_put_55 : decode m_Mo_put.2.1 55 = .ok (.ior, 1) := by decide +kernel
theorem d_Mo_put_56 : decode m_Mo_put.2.1 56 = .ok (.i2b, 1) := by decide +kernel
theorem d_Mo_put_57 : decode m_Mo_put.2.1 57 = .ok (.bastore, 1) := by decide +kernel
theorem d_Mo_put_58 : decode m_Mo_put.2.1 58 = .ok (.aload_n 0, 1) := by decide +kernel
theorem d_Mo_put_59 : decode m_Mo_put.2.1 59 = .ok (.dup, 1) := by decide +kernel
theorem d_Mo_put_60 : decode m_Mo_put.2.1 60 = .ok (.getfield 115, 3) := by decide +kernel
theorem d_Mo_put_63 : decode m_Mo_put.2.1 63 = .ok (.iconst 1, 1) := by decide +kernel
theorem d_Mo_put_64 : decode m_Mo_put.2.1 64 = .ok (.iadd, 1) := by decide +kernel
theorem d_Mo_put_65 : decode m_Mo_put.2.1 65 = .ok (.putfield 115, 3) := by decide +kernel
theorem d_Mo_put_68 : decode m_Mo_put.2.1 68 = .ok (.iinc 3 (-1), 3) := by decide +kernel
theorem d_Mo_put_71 : decode m_Mo_put.2.1 71 = .ok (.goto (-67), 3) := by decide +kernel
theorem d_Mo_put_74 : decode m_Mo_put.2.1 74 = .ok (.return_, 1) := by decide +kernel
theorem t_Mo_put_0 {d : Nat} {st : List Value} {o0 : Option Value} {o1 : Option Value} {x2 : Int32} {o3 : Option Value} {o4 : Option Value} {w : qk_W} {nc ns : Nat} {Q : Option Value ⊕ Nat → qk_W → Nat → Nat → Prop}   (k : Ev d m_Mo_put 4 [o0, o1, some (.int x2), some (.int (x2 - 1)), o4] st w nc ns Q) : Ev d m_Mo_put 0 [o0, o1, some (.int x2), o3, o4] st w nc ns Q := by
  refine ev_iload_n d_Mo_put_0 rfl ?_
  refine ev_iconst 1 d_Mo_put_1 (by decide) ?_
  refine ev_isub d_Mo_put_2 ?_
  refine ev_istore_n d_Mo_put_3 (by decide) rfl ?_
  exact k
theorem t_Mo_put_4 {d : Nat} {st : List Value} {o0 : Option Value} {o1 : Option Value} {o2 : Option Value} {x3 : Int32} {o4 : Option Value} {w : qk_W} {nc ns : Nat} {Q : Option Value ⊕ Nat → qk_W → Nat → Nat → Prop}   (kt : x3 < 0 → Ev d m_Mo_put 74 [o0, o1, o2, some (.int x3), o4] st w nc ns Q) (kf : ¬ (x3 < 0) → Ev d m_Mo_put 8 [o0, o1, o2, some (.int x3), o4] st w nc ns Q) : Ev d m_Mo_put 4 [o0, o1, o2, some (.int x3), o4] st w nc ns Q := by
  refine ev_iload_n d_Mo_put_4 rfl ?_
  exact ev_if_lt 74 d_Mo_put_5 (by decide) kt kf
theorem t_Mo_put_8 {d : Nat} {st : List Value} {a0 : Nat} {x1 : Int32} {o2 : Option Value} {x3 : Int32} {o4 : Option Value} {fs2 : List Value} {n4 : Int32} {n8 : Int32} {c13 : Nat} {n18 : Nat} {f19 : Nat → Int32} {w : qk_W} {nc ns : Nat} {Q : Option Value ⊕ Nat → qk_W → Nat → Nat → Prop}  (hw1 : wo w a0 11 fs2) (hf3 : fs2[24]? = some (.int n4)) (hf7 : fs2[25]? = some (.int n8)) (hc9 : qk_c2 [some (.ref a0), some (.int x1), o2, some (.int x3), o4] 4 = true) (hf12 : fs2[14]? = some (.ref c13)) (ha17 : wb w c13 n18 f19) (hi20 : vp_in ((512 * n4) + (n8 / 8)) n18) (k : Ev d m_Mo_put 58 [some (.ref a0), some (.int x1), o2, some (.int x3), some (.int ((512 * n4) + (n8 / 8)))] st (qk_set w c13 (.inl (.byte, n18, .inl (upd f19 ((512 * n4) + (n8 / 8)).toNatClampNeg (Int32.toInt8 ((Int32.toInt8 ((f19 ((512 * n4) + (n8 / 8)).toNatClampNeg) ||| (qi_shl ((qi_shr x1 x3) &&& 1) (7 - (qi_rem n8 8))))).toInt32)).toInt32)))) nc ns Q) : Ev d m_Mo_put 8 [some (.ref a0), some (.int x1), o2, some (.int x3), o4] st w nc ns Q := by
  refine ev_sipush 512 d_Mo_put_8 (by decide) ?_
  refine ev_aload_n d_Mo_put_11 rfl rfl ?_
  refine ev_getf d_Mo_put_12 fl_Mo_112 hw1.1 hw1.2 hf3 ?_
  refine ev_imul d_Mo_put_15 ?_
  refine ev_aload_n d_Mo_put_16 rfl rfl ?_
  refine ev_getf d_Mo_put_17 fl_Mo_115 hw1.1 hw1.2 hf7 ?_
  refine ev_bipush 8 d_Mo_put_20 (by decide) ?_
  refine ev_idiv d_Mo_put_22 (by decide) ?_
  refine ev_iadd d_Mo_put_23 ?_
  refine ev_istore d_Mo_put_24 (by decide) hc9 ?_
  refine ev_aload_n d_Mo_put_26 rfl rfl ?_
  refine ev_getf d_Mo_put_27 fl_Mo_47 hw1.1 hw1.2 hf12 ?_
  refine ev_iload d_Mo_put_30 rfl ?_
  refine ev_aload_n d_Mo_put_32 rfl rfl ?_
  refine ev_getf d_Mo_put_33 fl_Mo_47 hw1.1 hw1.2 hf12 ?_
  refine ev_iload d_Mo_put_36 rfl ?_
  refine ev_bald d_Mo_put_38 ha17.1 ha17.2 hi20 ?_
  refine ev_iload_n d_Mo_put_39 rfl ?_
  refine ev_iload_n d_Mo_put_40 rfl ?_
  refine ev_ishr d_Mo_put_41 ?_
  refine ev_iconst 1 d_Mo_put_42 (by decide) ?_
  refine ev_iand d_Mo_put_43 ?_
  refine ev_bipush 7 d_Mo_put_44 (by decide) ?_
  refine ev_aload_n d_Mo_put_46 rfl rfl ?_
  refine ev_getf d_Mo_put_47 fl_Mo_115 hw1.1 hw1.2 hf7 ?_
  refine ev_bipush 8 d_Mo_put_50 (by decide) ?_
  refine ev_irem d_Mo_put_52 (by decide) ?_
  refine ev_isub d_Mo_put_53 ?_
  refine ev_ishl d_Mo_put_54 ?_
  refine ev_ior d_Mo_put_55 ?_
  refine ev_i2b d_Mo_put_56 ?_
  exact ev_bast d_Mo_put_57 ha17.1 ha17.2 hi20 k
theorem t_Mo_put_58 {d : Nat} {st : List Value} {a0 : Nat} {o1 : Option Value} {o2 : Option Value} {o3 : Option Value} {o4 : Option Value} {fs2 : List Value} {n4 : Int32} {w : qk_W} {nc ns : Nat} {Q : Option Value ⊕ Nat → qk_W → Nat → Nat → Prop}  (hw1 : wo w a0 11 fs2) (hf3 : fs2[25]? = some (.int n4)) (hk : 25 < fs2.length) (k : Ev d m_Mo_put 68 [some (.ref a0), o1, o2, o3, o4] st (qk_set w a0 (.inr (11, fs2.set 25 (.int (n4 + 1))))) nc ns Q) : Ev d m_Mo_put 58 [some (.ref a0), o1, o2, o3, o4] st w nc ns Q := by
  refine ev_aload_n d_Mo_put_58 rfl rfl ?_
  refine ev_dup d_Mo_put_59 rfl ?_
  refine ev_getf d_Mo_put_60 fl_Mo_115 hw1.1 hw1.2 hf3 ?_
  refine ev_iconst 1 d_Mo_put_63 (by decide) ?_
  refine ev_iadd d_Mo_put_64 ?_
  exact ev_putf d_Mo_put_65 fl_Mo_115 rfl hw1.1 hw1.2 hk (qk_fitI _) k
theorem t_Mo_put_68 {d : Nat} {st : List Value} {o0 : Option Value} {o1 : Option Value} {o2 : Option Value} {x3 : Int32} {o4 : Option Value} {w : qk_W} {nc ns : Nat} {Q : Option Value ⊕ Nat → qk_W → Nat → Nat → Prop}  (hc1 : qk_c2 [o0, o1, o2, some (.int x3), o4] 3 = true) (k : Ev d m_Mo_put 4 [o0, o1, o2, some (.int (x3 + (-1))), o4] st w nc ns Q) : Ev d m_Mo_put 68 [o0, o1, o2, some (.int x3), o4] st w nc ns Q := by
  refine ev_iinc (-1) d_Mo_put_68 (by decide) rfl (by decide) hc1 ?_
  refine ev_goto 4 d_Mo_put_71 (by decide) ?_
  exact k
theorem t_Mo_put_74 {d : Nat} {o0 : Option Value} {o1 : Option Value} {o2 : Option Value} {o3 : Option Value} {o4 : Option Value} {w : qk_W} {nc ns : Nat} {Q : Option Value ⊕ Nat → qk_W → Nat → Nat → Prop}   (hq : Q (.inl none) w nc ns) : Ev d m_Mo_put 74 [o0, o1, o2, o3, o4] [] w nc ns Q := by
  exact ev_vret d_Mo_put_74 rfl hq
/-! Mo_oldest -/
theorem d_Mo_oldest_0 : decode m_Mo_oldest.2.1 0 = .ok (.aload_n 0, 1) := by decide +kernel
theorem d_Mo_oldest_1 : decode m_Mo_oldest.2.1 1 = .ok (.iload_n 1, 1) := by decide +kernel
theorem d_Mo_oldest_2 : decode m_Mo_oldest.2.1 2 = .ok (.invokevirtual 91, 3) := by decide +kernel
theorem d_Mo_oldest_5 : decode m_Mo_oldest.2.1 5 = .ok (.istore_n 2, 1) := by decide +kernel
theorem d_Mo_oldest_6 : decode m_Mo_oldest.2.1 6 = .ok (.iload_n 2, 1) := by decide +kernel
theorem d_Mo_oldest_7 : decode m_Mo_oldest.2.1 7 = .ok (.aload_n 0, 1) := by decide +kernel
theorem d_Mo_oldest_8 : decode m_Mo_oldest.2.1 8 = .ok (.getfield 88, 3) := by decide +kernel
theorem d_Mo_oldest_11 : decode m_Mo_oldest.2.1 11 = .ok (.if_icmp .ne 7, 3) := by decide +kernel
theorem d_Mo_oldest_14 : decode m_Mo_oldest.2.1 14 = .ok (.iconst 0, 1) := by decide +kernel
theorem d_Mo_oldest_15 : decode m_Mo_oldest.2.1 15 = .ok (.goto 9, 3) := by decide +kernel
theorem d_Mo_oldest_18 : decode m_Mo_oldest.2.1 18 = .ok (.aload_n 0, 1) := by decide +kernel
theorem d_Mo_oldest_19 : decode m_Mo_oldest.2.1 19 = .ok (.getfield 30, 3) := by decide +kernel
theorem d_Mo_oldest_22 : decode m_Mo_oldest.2.1 22 = .ok (.iload_n 2, 1) := by decide +kernel
theorem d_Mo_oldest_23 : decode m_Mo_oldest.2.1 23 = .ok (.iaload, 1) := by decide +kernel
theorem d_Mo_oldest_24 : decode m_Mo_oldest.2.1 24 = .ok (.ireturn, 1) := by decide +kernel
theorem t_Mo_oldest_0 {d : Nat} {st : List Value} {a0 : Nat} {x1 : Int32} {o2 : Option Value} {fsb : List Value} {w : qk_W} {nc ns : Nat} {Q : Option Value ⊕ Nat → qk_W → Nat → Nat → Prop}  (hb : wo w a0 11 fsb) (h8 : (st.map fun v => Value.category v).sum ≤ 8) (k : Ev d m_Mo_ringFirst 0 [some (.ref a0), some (.int x1), none, none, none] [] w nc ns (fun r w1 nc1 ns1 => match r with | .inl v => Ev (d + 1) m_Mo_oldest 5 [some (.ref a0), some (.int x1), o2] (v.toList ++ st) w1 nc1 ns1 Q | .inr x => Q (.inr x) w1 nc1 ns1)) : Ev (d + 1) m_Mo_oldest 0 [some (.ref a0), some (.int x1), o2] st w nc ns Q := by
  refine ev_aload_n d_Mo_oldest_0 rfl rfl ?_
  refine ev_iload_n d_Mo_oldest_1 rfl ?_
  exact ev_call (M' := m_Mo_ringFirst) (As := [.ref a0, .int x1]) (st := st) d_Mo_oldest_2 i_Mo_ringFirst (fun h => absurd h (by decide +kernel)) cw_Mo_91 rfl rfl ⟨hb.1, 11, _, _, hb.2, rfl, rfl⟩ rfl (Nat.le_of_ble_eq_true rfl) h8 k
theorem t_Mo_oldest_5 {d : Nat} {st : List Value} {a0 : Nat} {o1 : Option Value} {o2 : Option Value} {y0 : Int32} {fs3 : List Value} {n5 : Int32} {w : qk_W} {nc ns : Nat} {Q : Option Value ⊕ Nat → qk_W → Nat → Nat → Prop}  (hc1 : qk_c2 [some (.ref a0), o1, o2] 2 = true) (hw2 : wo w a0 11 fs3) (hf4 : fs3[11]? = some (.int n5)) (kt : ¬ y0 = n5 → Ev d m_Mo_oldest 18 [some (.ref a0), o1, some (.int y0)] st w nc ns Q) (kf : y0 = n5 → Ev d m_Mo_oldest 14 [some (.ref a0), o1, some (.int y0)] st w nc ns Q) : Ev d m_Mo_oldest 5 [some (.ref a0), o1, o2] (.int y0 :: st) w nc ns Q := by
  refine ev_istore_n d_Mo_oldest_5 (by decide) hc1 ?_
  refine ev_iload_n d_Mo_oldest_6 rfl ?_
  refine ev_aload_n d_Mo_oldest_7 rfl rfl ?_
  refine ev_getf d_Mo_oldest_8 fl_Mo_88 hw2.1 hw2.2 hf4 ?_
  exact ev_icmp_ne 18 d_Mo_oldest_11 (by decide) kt kf
theorem t_Mo_oldest_14 {d : Nat} {o0 : Option Value} {o1 : Option Value} {o2 : Option Value} {w : qk_W} {nc ns : Nat} {Q : Option Value ⊕ Nat → qk_W → Nat → Nat → Prop}   (hq : Q (.inl (some (.int 0))) w nc ns) : Ev d m_Mo_oldest 14 [o0, o1, o2] [] w nc ns Q := by
  refine ev_iconst 0 d_Mo_oldest_14 (by decide) ?_
  refine ev_goto 24 d_Mo_oldest_15 (by decide) ?_
  exact ev_iret d_Mo_oldest_24 rfl rfl hq
theorem t_Mo_oldest_18 {d : Nat} {a0 : Nat} {o1 : Option Value} {x2 : Int32} {fs2 : List Value} {c4 : Nat} {n6 : Nat} {f7 : Nat → Int32} {w : qk_W} {nc ns : Nat} {Q : Option Value ⊕ Nat → qk_W → Nat → Nat → Prop}  (hw1 : wo w a0 11 fs2) (hf3 : fs2[7]? = some (.ref c4)) (ha5 : wi w c4 n6 f7) (hi8 : vp_in x2 n6) (hq : Q (.inl (some (.int (f7 x2.toNatClampNeg)))) w nc ns) : Ev d m_Mo_oldest 18 [some (.ref a0), o1, some (.int x2)] [] w nc ns Q := by
  refine ev_aload_n d_Mo_oldest_18 rfl rfl ?_
  refine ev_getf d_Mo_oldest_19 fl_Mo_30 hw1.1 hw1.2 hf3 ?_
  refine ev_iload_n d_Mo_oldest_22 rfl ?_
  refine ev_iald d_Mo_oldest_23 ha5 hi8 ?_
  exact ev_iret d_Mo_oldest_24 rfl rfl hq
/-! Mo_end -/
theorem cw_Mo_119 : qk_cw "QuakeLinkModel" m_Mo_check.1 (.invokevirtual 119) := ⟨(lw_i5 _ (List.mem_of_getElem? (i := 121) rfl)), (lw_i5 _ (List.mem_of_getElem? (i := 123) rfl)), (lw_i0 _ (List.mem_of_getElem? (i := 33) rfl))⟩
theorem d_Mo_end_0 : decode m_Mo_end.2.1 0 = .ok (.aload_n 0, 1) := by decide +kernel
theorem d_Mo_end_1 : decode m_Mo_end.2.1 1 = .ok (.aload_n 0, 1) := by decide +kernel
theorem d_Mo_end_2 : decode m_Mo_end.2.1 2 = .ok (.getfield 115, 3) := by decide +kernel
theorem d_Mo_end_5 : decode m_Mo_end.2.1 5 = .ok (.bipush 7, 2) := by decide +kernel
theorem d_Mo_end_7 : decode m_Mo_end.2.1 7 = .ok (.iadd, 1) := by decide +kernel
theorem d_Mo_end_8 : decode m_Mo_end.2.1 8 = .ok (.bipush 8, 2) := by decide +kernel
theorem d_Mo_end_10 : decode m_Mo_end.2.1 10 = .ok (.idiv, 1) := by decide +kernel
theorem d_Mo_end_11 : decode m_Mo_end.2.1 11 = .ok (.bipush 8, 2) := by decide +kernel
theorem d_Mo_end_13 : decode m_Mo_end.2.1 13 = .ok (.imul, 1) := by decide +kernel
theorem d_Mo_end_14 : decode m_Mo_end.2.1 14 = .ok (.putfield 115, 3) := by decide +kernel
theorem d_Mo_end_17 : decode m_Mo_end.2.1 17 = .ok (.aload_n 0, 1) := by decide +kernel
theorem d_Mo_end_18 : decode m_Mo_end.2.1 18 = .ok (.aload_n 0, 1) := by decide +kernel
theorem d_Mo_end_19 : decode m_Mo_end.2.1 19 = .ok (.aload_n 0, 1) := by decide +kernel
theorem d_Mo_end_20 : decode m_Mo_end.2.1 20 = .ok (.getfield 112, 3) := by decide +kernel
theorem d_Mo_end_23 : decode m_Mo_end.2.1 23 = .ok (.aload_n 0, 1) := by decide +kernel
theorem d_Mo_end_24 : decode m_Mo_end.2.1 24 = .ok (.getfield 115, 3) := by decide +kernel
theorem d_Mo_end_27 : decode m_Mo_end.2.1 27 = .ok (.bipush 8, 2) := by decide +kernel
theorem d_Mo_end_29 : decode m_Mo_end.2.1 29 = .ok (.idiv, 1) := by decide +kernel
theorem d_Mo_end_30 : decode m_Mo_end.2.1 30 = .ok (.invokevirtual 119, 3) := by decide +kernel
theorem d_Mo_end_33 : decode m_Mo_end.2.1 33 = .ok (.bipush 32, 2) := by decide +kernel
theorem d_Mo_end_35 : decode m_Mo_end.2.1 35 = .ok (.invokevirtual 123, 3) := by decide +kernel
theorem d_Mo_end_38 : decode m_Mo_end.2.1 38 = .ok (.aload_n 0, 1) := by decide +kernel
theorem d_Mo_end_39 : decode m_Mo_end.2.1 39 = .ok (.getfield 51, 3) := by decide +kernel
theorem d_Mo_end_42 : decode m_Mo_end.2.1 42 = .ok (.aload_n 0, 1) := by decide +kernel
theorem d_Mo_end_43 : decode m_Mo_end.2.1 43 = .ok (.getfield 112, 3) := by decide +kernel
theorem d_Mo_end_46 : decode m_Mo_end.2.1 46 = .ok (.aload_n 0, 1) := by decide +kernel
theorem d_Mo_end_47 : decode m_Mo_end.2.1 47 = .ok (.getfield 115, 3) := by decide +kernel
theorem d_Mo_end_50 : decode m_Mo_end.2.1 50 = .ok (.bipush 8, 2) := by decide +kernel
theorem d_Mo_end_52 : decode m_Mo_end.2.1 52 = .ok (.idiv, 1) := by decide +kernel
theorem d_Mo_end_53 : decode m_Mo_end.2.1 53 = .ok (.iastore, 1) := by decide +kernel
theorem d_Mo_end_54 : decode m_Mo_end.2.1 54 = .ok (.aload_n 0, 1) := by decide +kernel
theorem d_Mo_end_55 : decode m_Mo_end.2.1 55 = .ok (.dup, 1) := by decide +kernel
theorem d_Mo_end_56 : decode m_Mo_end.2.1 56 = .ok (.getfield 109, 3) := by decide +kernel
theorem d_Mo_end_59 : decode m_Mo_end.2.1 59 = .ok (.iconst 1, 1) := by decide +kernel
theorem d_Mo_end_60 : decode m_Mo_end.2.1 60 = .ok (.iadd, 1) := by decide +kernel
theorem d_Mo_end_61 : decode m_Mo_end.2.1 61 = .ok (.putfield 109, 3) := by decide +kernel
theorem d_Mo_end_64 : decode m_Mo_end.2.1 64 = .ok (.aload_n 0, 1) := by decide +kernel
theorem d_Mo_end_65 : decode m_Mo_end.2.1 65 = .ok (.getfield 109, 3) := by decide +kernel
theorem d_Mo_end_68 : decode m_Mo_end.2.1 68 = .ok (.iconst 1, 1) := by decide +kernel
theorem d_Mo_end_69 : decode m_Mo_end.2.1 69 = .ok (.isub, 1) := by decide +kernel
theorem d_Mo_end_70 : decode m_Mo_end.2.1 70 = .ok (.ireturn, 1) := by decide +kernel
theorem t_Mo_end_0 {d : Nat} {st : List Value} {a0 : Nat} {fs2 : List Value} {n4 : Int32} {w : qk_W} {nc ns : Nat} {Q : Option Value ⊕ Nat → qk_W → Nat → Nat → Prop}  (hw1 : wo w a0 11 fs2) (hf3 : fs2[25]? = some (.int n4)) (hk : 25 < fs2.length) (k : Ev d m_Mo_end 17 [some (.ref a0)] st (qk_set w a0 (.inr (11, fs2.set 25 (.int (((n4 + 7) / 8) * 8))))) nc ns Q) : Ev d m_Mo_end 0 [some (.ref a0)] st w nc ns Q := by
  refine ev_aload_n d_Mo_end_0 rfl rfl ?_
  refine ev_aload_n d_Mo_end_1 rfl rfl ?_
  refine ev_getf d_Mo_end_2 fl_Mo_115 hw1.1 hw1.2 hf3 ?_
  refine ev_bipush 7 d_Mo_end_5 (by decide) ?_
  refine ev_iadd d_Mo_end_7 ?_
  refine ev_bipush 8 d_Mo_end_8 (by decide) ?_
  refine ev_idiv d_Mo_end_10 (by decide) ?_
  refine ev_bipush 8 d_Mo_end_11 (by decide) ?_
  refine ev_imul d_Mo_end_13 ?_
  exact ev_putf d_Mo_end_14 fl_Mo_115 rfl hw1.1 hw1.2 hk (qk_fitI _) k
theorem t_Mo_end_17 {d : Nat} {st : List Value} {a0 : Nat} {fs2 : List Value} {n4 : Int32} {n8 : Int32} {w : qk_W} {nc ns : Nat} {Q : Option Value ⊕ Nat → qk_W → Nat → Nat → Prop}  (hw1 : wo w a0 11 fs2) (hf3 : fs2[24]? = some (.int n4)) (hf7 : fs2[25]? = some (.int n8)) (h8 : ((.ref a0 :: st).map fun v => Value.category v).sum ≤ 8) (k : Ev d m_Mo_check 0 [some (.ref a0), some (.int n4), some (.int (n8 / 8)), none, none, none, none] [] w nc ns (fun r w1 nc1 ns1 => match r with | .inl v => Ev (d + 1) m_Mo_end 33 [some (.ref a0)] (v.toList ++ (.ref a0 :: st)) w1 nc1 ns1 Q | .inr x => Q (.inr x) w1 nc1 ns1)) : Ev (d + 1) m_Mo_end 17 [some (.ref a0)] st w nc ns Q := by
  refine ev_aload_n d_Mo_end_17 rfl rfl ?_
  refine ev_aload_n d_Mo_end_18 rfl rfl ?_
  refine ev_aload_n d_Mo_end_19 rfl rfl ?_
  refine ev_getf d_Mo_end_20 fl_Mo_112 hw1.1 hw1.2 hf3 ?_
  refine ev_aload_n d_Mo_end_23 rfl rfl ?_
  refine ev_getf d_Mo_end_24 fl_Mo_115 hw1.1 hw1.2 hf7 ?_
  refine ev_bipush 8 d_Mo_end_27 (by decide) ?_
  refine ev_idiv d_Mo_end_29 (by decide) ?_
  exact ev_call (M' := m_Mo_check) (As := [.ref a0, .int n4, .int (n8 / 8)]) (st := (.ref a0 :: st)) d_Mo_end_30 i_Mo_check (fun h => absurd h (by decide +kernel)) cw_Mo_119 rfl rfl ⟨hw1.1, 11, _, _, hw1.2, rfl, rfl⟩ rfl (Nat.le_of_ble_eq_true rfl) h8 k
theorem t_Mo_end_33 {d : Nat} {st : List Value} {o0 : Option Value} {y0 : Int32} {b1 : Nat} {fsb : List Value} {w : qk_W} {nc ns : Nat} {Q : Option Value ⊕ Nat → qk_W → Nat → Nat → Prop}  (hb : wo w b1 11 fsb) (h8 : (st.map fun v => Value.category v).sum ≤ 8) (k : Ev d m_Mo_put 0 [some (.ref b1), some (.int y0), some (.int 32), none, none] [] w nc ns (fun r w1 nc1 ns1 => match r with | .inl v => Ev (d + 1) m_Mo_end 38 [o0] (v.toList ++ st) w1 nc1 ns1 Q | .inr x => Q (.inr x) w1 nc1 ns1)) : Ev (d + 1) m_Mo_end 33 [o0] (.int y0 :: .ref b1 :: st) w nc ns Q := by
  refine ev_bipush 32 d_Mo_end_33 (by decide) ?_
  exact ev_call (M' := m_Mo_put) (As := [.ref b1, .int y0, .int 32]) (st := st) d_Mo_end_35 i_Mo_put (fun h => absurd h (by decide +kernel)) cw_Mo_123 rfl rfl ⟨hb.1, 11, _, _, hb.2, rfl, rfl⟩ rfl (Nat.le_of_ble_eq_true rfl) h8 k
theorem t_Mo_end_38 {d : Nat} {st : List Value} {a0 : Nat} {fs2 : List Value} {c4 : Nat} {n8 : Int32} {n12 : Int32} {n14 : Nat} {f15 : Nat → Int32} {w : qk_W} {nc ns : Nat} {Q : Option Value ⊕ Nat → qk_W → Nat → Nat → Prop}  (hw1 : wo w a0 11 fs2) (hf3 : fs2[15]? = some (.ref c4)) (hf7 : fs2[24]? = some (.int n8)) (hf11 : fs2[25]? = some (.int n12)) (ha13 : wi w c4 n14 f15) (hi : vp_in n8 n14) (h16 : 16 ≤ c4) (k : Ev d m_Mo_end 54 [some (.ref a0)] st (qk_set w c4 (.inl (.int, n14, .inl (upd f15 n8.toNatClampNeg (n12 / 8))))) nc ns Q) : Ev d m_Mo_end 38 [some (.ref a0)] st w nc ns Q := by
  refine ev_aload_n d_Mo_end_38 rfl rfl ?_
  refine ev_getf d_Mo_end_39 fl_Mo_51 hw1.1 hw1.2 hf3 ?_
  refine ev_aload_n d_Mo_end_42 rfl rfl ?_
  refine ev_getf d_Mo_end_43 fl_Mo_112 hw1.1 hw1.2 hf7 ?_
  refine ev_aload_n d_Mo_end_46 rfl rfl ?_
  refine ev_getf d_Mo_end_47 fl_Mo_115 hw1.1 hw1.2 hf11 ?_
  refine ev_bipush 8 d_Mo_end_50 (by decide) ?_
  refine ev_idiv d_Mo_end_52 (by decide) ?_
  exact ev_iast d_Mo_end_53 h16 ha13 hi k
theorem t_Mo_end_54 {d : Nat} {st : List Value} {a0 : Nat} {fs2 : List Value} {n4 : Int32} {w : qk_W} {nc ns : Nat} {Q : Option Value ⊕ Nat → qk_W → Nat → Nat → Prop}  (hw1 : wo w a0 11 fs2) (hf3 : fs2[17]? = some (.int n4)) (hk : 17 < fs2.length) (k : Ev d m_Mo_end 64 [some (.ref a0)] st (qk_set w a0 (.inr (11, fs2.set 17 (.int (n4 + 1))))) nc ns Q) : Ev d m_Mo_end 54 [some (.ref a0)] st w nc ns Q := by
  refine ev_aload_n d_Mo_end_54 rfl rfl ?_
  refine ev_dup d_Mo_end_55 rfl ?_
  refine ev_getf d_Mo_end_56 fl_Mo_109 hw1.1 hw1.2 hf3 ?_
  refine ev_iconst 1 d_Mo_end_59 (by decide) ?_
  refine ev_iadd d_Mo_end_60 ?_
  exact ev_putf d_Mo_end_61 fl_Mo_109 rfl hw1.1 hw1.2 hk (qk_fitI _) k
theorem t_Mo_end_64 {d : Nat} {a0 : Nat} {fs2 : List Value} {n4 : Int32} {w : qk_W} {nc ns : Nat} {Q : Option Value ⊕ Nat → qk_W → Nat → Nat → Prop}  (hw1 : wo w a0 11 fs2) (hf3 : fs2[17]? = some (.int n4)) (hq : Q (.inl (some (.int (n4 - 1)))) w nc ns) : Ev d m_Mo_end 64 [some (.ref a0)] [] w nc ns Q := by
  refine ev_aload_n d_Mo_end_64 rfl rfl ?_
  refine ev_getf d_Mo_end_65 fl_Mo_109 hw1.1 hw1.2 hf3 ?_
  refine ev_iconst 1 d_Mo_end_68 (by decide) ?_
  refine ev_isub d_Mo_end_69 ?_
  exact ev_iret d_Mo_end_70 rfl rfl hq
/-! Mo_check -/
theorem lc_Mo_118 : Cond.constant "QuakeLinkModel" 118 (-306674912) ∈ lw_tbl := (lw_i5 _ (List.mem_of_getElem? (i := 125) rfl))
theorem d_Mo_check_0 : decode m_Mo_check.2.1 0 = .ok (.iconst (-1), 1) := by decide +kernel
theorem d_Mo_check_1 : decode m_Mo_check.2.1 1 = .ok (.istore_n 3, 1) := by decide +kernel
theorem d_Mo_check_2 : decode m_Mo_check.2.1 2 = .ok (.iconst 0, 1) := by decide +kernel
theorem d_Mo_check_3 : decode m_Mo_check.2.1 3 = .ok (.istore 4, 2) := by decide +kernel
theorem d_Mo_check_5 : decode m_Mo_check.2.1 5 = .ok (.iload 4, 2) := by decide +kernel
theorem d_Mo_check_7 : decode m_Mo_check.2.1 7 = .ok (.iload_n 2, 1) := by decide +kernel
theorem d_Mo_check_8 : decode m_Mo_check.2.1 8 = .ok (.if_icmp .ge 74, 3) := by decide +kernel
theorem d_Mo_check_11 : decode m_Mo_check.2.1 11 = .ok (.iconst 0, 1) := by decide +kernel
theorem d_Mo_check_12 : decode m_Mo_check.2.1 12 = .ok (.istore 5, 2) := by decide +kernel
theorem d_Mo_check_14 : decode m_Mo_check.2.1 14 = .ok (.iload 5, 2) := by decide +kernel
theorem d_Mo_check_16 : decode m_Mo_check.2.1 16 = .ok (.bipush 8, 2) := by decide +kernel
theorem d_Mo_check_18 : decode m_Mo_check.2.1 18 = .ok (.if_icmp .ge 58, 3) := by decide +kernel
theorem d_Mo_check_21 : decode m_Mo_check.2.1 21 = .ok (.iload_n 3, 1) := by decide +kernel
theorem d_Mo_check_22 : decode m_Mo_check.2.1 22 = .ok (.iconst 1, 1) := by decide +kernel
theorem d_Mo_check_23 : decode m_Mo_check.2.1 23 = .ok (.iand, 1) := by decide +kernel
theorem d_Mo_check_24 : decode m_Mo_check.2.1 24 = .ok (.aload_n 0, 1) := by decide +kernel
theorem d_Mo_check_25 : decode m_Mo_check.2.1 25 = .ok (.getfield 47, 3) := by decide +kernel
theorem d_Mo_check_28 : decode m_Mo_check.2.1 28 = .ok (.sipush 512, 3) := by decide +kernel
theorem d_Mo_check_31 : decode m_Mo_check.2.1 31 = .ok (.iload_n 1, 1) := by decide +kernel
theorem d_Mo_check_32 : decode m_Mo_check.2.1 32 = .ok (.imul, 1) := by decide +kernel
theorem d_Mo_check_33 : decode m_Mo_check.2.1 33 = .ok (.iload 4, 2) := by decide +kernel
theorem d_Mo_check_35 : decode m_Mo_check.2.1 35 = .ok (.iadd, 1) := by decide +kernel
theorem d_Mo_check_36 : decode m_Mo_check.2.1 36 = .ok (.baload, 1) := by decide +kernel
theorem d_Mo_check_37 : decode m_Mo_check.2.1 37 = .ok (.iload 5, 2) := by decide +kernel
theorem d_Mo_check_39 : decode m_Mo_check.2.1 39 = .ok (.ishr, 1) := by decide +kernel
theorem d_Mo_check_40 : decode m_Mo_check.2.1 40 = .ok (.iconst 1, 1) := by decide +kernel
theorem d_Mo_check_41 : decode m_Mo_check.2.1 41 = .ok (.iand, 1) := by decide +kernel
theorem d_Mo_check_42 : decode m_Mo_check.2.1 42 = .ok (.if_icmp .eq 7, 3) := by decide +kernel
theorem d_Mo_check_45 : decode m_Mo_check.2.1 45 = .ok (.iconst 1, 1) := by decide +kernel
theorem d_Mo_check_46 : decode m_Mo_check.2.1 46 = .ok (.goto 4, 3) := by decide +kernel
theorem d_Mo_check_49 : decode m_Mo_check.2.1 49 = .ok (.iconst 0, 1) := by decide +kernel
theorem d_Mo_check_50 : decode m_Mo_check.2.1 50 = .ok (.istore 6, 2) := by decide +kernel
theorem d_Mo_check_52 : decode m_Mo_check.2.1 52 = .ok (.iload_n 3, 1) := by decide +kernel
theorem d_Mo_check_53 : decode m_Mo_check.2.1 53 = .ok (.iconst 1, 1) := by decide +kernel
theorem d_Mo_check_54 : decode m_Mo_check.2.1 54 = .ok (.iushr, 1) := by decide +kernel
theorem d_Mo_check_55 : decode m_Mo_check.2.1 55 = .ok (.istore_n 3, 1) := by decide +kernel
theorem d_Mo_check_56 : decode m_Mo_check.2.1 56 = .ok (.iload 6, 2) := by decide +kernel
theorem d_Mo_check_58 : decode m_Mo_check.2.1 58 = .ok (.ifCond .eq 10, 3) := by decide +kernel
theorem d_Mo_check_61 : decode m_Mo_check.2.1 61 = .ok (.iload_n 3, 1) := by decide +kernel
theorem d_Mo_check_62 : decode m_Mo_check.2.1 62 = .ok (.ldc 118, 2) := by decide +kernel
theorem d_Mo_check_64 : decode m_Mo_check.2.1 64 = .ok (.ixor, 1) := by decide +kernel
theorem d_Mo_check_65 : decode m_Mo_check.2.1 65 = .ok (.goto 4, 3) := by decide +kernel
theorem d_Mo_check_68 : decode m_Mo_check.2.1 68 = .ok (.iload_n 3, 1) := by decide +kernel
theorem d_Mo_check_69 : decode m_Mo_check.2.1 69 = .ok (.istore_n 3, 1) := by decide +kernel
theorem d_Mo_check_70 : decode m_Mo_check.2.1 70 = .ok (.iinc 5 1, 3) := by decide +kernel
theorem d_Mo_check_73 : decode m_Mo_check.2.1 73 = .ok (.goto (-59), 3) := by decide +kernel
theorem d_Mo_check_76 : decode m_Mo_check.2.1 76 = .ok (.iinc 4 1, 3) := by decide +kernel
theorem d_Mo_check_79 : decode m_Mo_check.2.1 79 = .ok (.goto (-74), 3) := by decide +kernel
theorem d_Mo_check_82 : decode m_Mo_check.2.1 82 = .ok (.iload_n 3, 1) := by decide +kernel
theorem d_Mo_check_83 : decode m_Mo_check.2.1 83 = .ok (.iconst (-1), 1) := by decide +kernel
theorem d_Mo_check_84 : decode m_Mo_check.2.1 84 = .ok (.ixor, 1) := by decide +kernel
theorem d_Mo_check_85 : decode m_Mo_check.2.1 85 = .ok (.ireturn, 1) := by decide +kernel
theorem t_Mo_check_0 {d : Nat} {st : List Value} {o0 : Option Value} {o1 : Option Value} {o2 : Option Value} {o3 : Option Value} {o4 : Option Value} {o5 : Option Value} {o6 : Option Value} {w : qk_W} {nc ns : Nat} {Q : Option Value ⊕ Nat → qk_W → Nat → Nat → Prop}  (hc1 : qk_c2 [o0, o1, o2, o3, o4, o5, o6] 3 = true) (k : Ev d m_Mo_check 5 [o0, o1, o2, some (.int (-1)), some (.int 0), o5, o6] st w nc ns Q) : Ev d m_Mo_check 0 [o0, o1, o2, o3, o4, o5, o6] st w nc ns Q := by
  refine ev_iconst (-1) d_Mo_check_0 (by decide) ?_
  refine ev_istore_n d_Mo_check_1 (by decide) hc1 ?_
  refine ev_iconst 0 d_Mo_check_2 (by decide) ?_
  refine ev_istore d_Mo_check_3 (by decide) rfl ?_
  exact k
theorem t_Mo_check_5 {d : Nat} {st : List Value} {o0 : Option Value} {o1 : Option Value} {x2 : Int32} {o3 : Option Value} {x4 : Int32} {o5 : Option Value} {o6 : Option Value} {w : qk_W} {nc ns : Nat} {Q : Option Value ⊕ Nat → qk_W → Nat → Nat → Prop}   (kt : x2 ≤ x4 → Ev d m_Mo_check 82 [o0, o1, some (.int x2), o3, some (.int x4), o5, o6] st w nc ns Q) (kf : ¬ (x2 ≤ x4) → Ev d m_Mo_check 11 [o0, o1, some (.int x2), o3, some (.int x4), o5, o6] st w nc ns Q) : Ev d m_Mo_check 5 [o0, o1, some (.int x2), o3, some (.int x4), o5, o6] st w nc ns Q := by
  refine ev_iload d_Mo_check_5 rfl ?_
  refine ev_iload_n d_Mo_check_7 rfl ?_
  exact ev_icmp_ge 82 d_Mo_check_8 (by decide) kt kf
theorem t_Mo_check_11 {d : Nat} {st : List Value} {o0 : Option Value} {o1 : Option Value} {o2 : Option Value} {o3 : Option Value} {o4 : Option Value} {o5 : Option Value} {o6 : Option Value} {w : qk_W} {nc ns : Nat} {Q : Option Value ⊕ Nat → qk_W → Nat → Nat → Prop}  (hc1 : qk_c2 [o0, o1, o2, o3, o4, o5, o6] 5 = true) (k : Ev d m_Mo_check 14 [o0, o1, o2, o3, o4, some (.int 0), o6] st w nc ns Q) : Ev d m_Mo_check 11 [o0, o1, o2, o3, o4, o5, o6] st w nc ns Q := by
  refine ev_iconst 0 d_Mo_check_11 (by decide) ?_
  refine ev_istore d_Mo_check_12 (by decide) hc1 ?_
  exact k
theorem t_Mo_check_14 {d : Nat} {st : List Value} {o0 : Option Value} {o1 : Option Value} {o2 : Option Value} {o3 : Option Value} {o4 : Option Value} {x5 : Int32} {o6 : Option Value} {w : qk_W} {nc ns : Nat} {Q : Option Value ⊕ Nat → qk_W → Nat → Nat → Prop}   (kt : (8 : Int32) ≤ x5 → Ev d m_Mo_check 76 [o0, o1, o2, o3, o4, some (.int x5), o6] st w nc ns Q) (kf : ¬ ((8 : Int32) ≤ x5) → Ev d m_Mo_check 21 [o0, o1, o2, o3, o4, some (.int x5), o6] st w nc ns Q) : Ev d m_Mo_check 14 [o0, o1, o2, o3, o4, some (.int x5), o6] st w nc ns Q := by
  refine ev_iload d_Mo_check_14 rfl ?_
  refine ev_bipush 8 d_Mo_check_16 (by decide) ?_
  exact ev_icmp_ge 76 d_Mo_check_18 (by decide) kt kf
theorem t_Mo_check_21 {d : Nat} {st : List Value} {a0 : Nat} {x1 : Int32} {o2 : Option Value} {x3 : Int32} {x4 : Int32} {x5 : Int32} {o6 : Option Value} {fs2 : List Value} {c4 : Nat} {n6 : Nat} {f7 : Nat → Int32} {w : qk_W} {nc ns : Nat} {Q : Option Value ⊕ Nat → qk_W → Nat → Nat → Prop}  (hw1 : wo w a0 11 fs2) (hf3 : fs2[14]? = some (.ref c4)) (ha5 : wb w c4 n6 f7) (hi8 : vp_in ((512 * x1) + x4) n6) (kt : (x3 &&& 1) = ((qi_shr (f7 ((512 * x1) + x4).toNatClampNeg) x5) &&& 1) → Ev d m_Mo_check 49 [some (.ref a0), some (.int x1), o2, some (.int x3), some (.int x4), some (.int x5), o6] st w nc ns Q) (kf : ¬ ((x3 &&& 1) = ((qi_shr (f7 ((512 * x1) + x4).toNatClampNeg) x5) &&& 1)) → Ev d m_Mo_check 45 [some (.ref a0), some (.int x1), o2, some (.int x3), some (.int x4), some (.int x5), o6] st w nc ns Q) : Ev d m_Mo_check 21 [some (.ref a0), some (.int x1), o2, some (.int x3), some (.int x4), some (.int x5), o6] st w nc ns Q := by
  refine ev_iload_n d_Mo_check_21 rfl ?_
  refine ev_iconst 1 d_Mo_check_22 (by decide) ?_
  refine ev_iand d_Mo_check_23 ?_
  refine ev_aload_n d_Mo_check_24 rfl rfl ?_
  refine ev_getf d_Mo_check_25 fl_Mo_47 hw1.1 hw1.2 hf3 ?_
  refine ev_sipush 512 d_Mo_check_28 (by decide) ?_
  refine ev_iload_n d_Mo_check_31 rfl ?_
  refine ev_imul d_Mo_check_32 ?_
  refine ev_iload d_Mo_check_33 rfl ?_
  refine ev_iadd d_Mo_check_35 ?_
  refine ev_bald d_Mo_check_36 ha5.1 ha5.2 hi8 ?_
  refine ev_iload d_Mo_check_37 rfl ?_
  refine ev_ishr d_Mo_check_39 ?_
  refine ev_iconst 1 d_Mo_check_40 (by decide) ?_
  refine ev_iand d_Mo_check_41 ?_
  exact ev_icmp_eq 49 d_Mo_check_42 (by decide) kt kf
theorem t_Mo_check_45 {d : Nat} {st : List Value} {o0 : Option Value} {o1 : Option Value} {o2 : Option Value} {x3 : Int32} {o4 : Option Value} {o5 : Option Value} {o6 : Option Value} {w : qk_W} {nc ns : Nat} {Q : Option Value ⊕ Nat → qk_W → Nat → Nat → Prop}  (hc1 : qk_c2 [o0, o1, o2, some (.int x3), o4, o5, o6] 6 = true) (hc2 : qk_c2 [o0, o1, o2, some (.int x3), o4, o5, some (.int 1)] 3 = true) (kt : (1 : Int32) = 0 → Ev d m_Mo_check 68 [o0, o1, o2, some (.int (qi_ushr x3 1)), o4, o5, some (.int 1)] st w nc ns Q) (kf : ¬ ((1 : Int32) = 0) → Ev d m_Mo_check 61 [o0, o1, o2, some (.int (qi_ushr x3 1)), o4, o5, some (.int 1)] st w nc ns Q) : Ev d m_Mo_check 45 [o0, o1, o2, some (.int x3), o4, o5, o6] st w nc ns Q := by
  refine ev_iconst 1 d_Mo_check_45 (by decide) ?_
  refine ev_goto 50 d_Mo_check_46 (by decide) ?_
  refine ev_istore d_Mo_check_50 (by decide) hc1 ?_
  refine ev_iload_n d_Mo_check_52 rfl ?_
  refine ev_iconst 1 d_Mo_check_53 (by decide) ?_
  refine ev_iushr d_Mo_check_54 ?_
  refine ev_istore_n d_Mo_check_55 (by decide) hc2 ?_
  refine ev_iload d_Mo_check_56 rfl ?_
  exact ev_if_eq 68 d_Mo_check_58 (by decide) kt kf
theorem t_Mo_check_49 {d : Nat} {st : List Value} {o0 : Option Value} {o1 : Option Value} {o2 : Option Value} {x3 : Int32} {o4 : Option Value} {o5 : Option Value} {o6 : Option Value} {w : qk_W} {nc ns : Nat} {Q : Option Value ⊕ Nat → qk_W → Nat → Nat → Prop}  (hc1 : qk_c2 [o0, o1, o2, some (.int x3), o4, o5, o6] 6 = true) (hc2 : qk_c2 [o0, o1, o2, some (.int x3), o4, o5, some (.int 0)] 3 = true) (kt : (0 : Int32) = 0 → Ev d m_Mo_check 68 [o0, o1, o2, some (.int (qi_ushr x3 1)), o4, o5, some (.int 0)] st w nc ns Q) (kf : ¬ ((0 : Int32) = 0) → Ev d m_Mo_check 61 [o0, o1, o2, some (.int (qi_ushr x3 1)), o4, o5, some (.int 0)] st w nc ns Q) : Ev d m_Mo_check 49 [o0, o1, o2, some (.int x3), o4, o5, o6] st w nc ns Q := by
  refine ev_iconst 0 d_Mo_check_49 (by decide) ?_
  refine ev_istore d_Mo_check_50 (by decide) hc1 ?_
  refine ev_iload_n d_Mo_check_52 rfl ?_
  refine ev_iconst 1 d_Mo_check_53 (by decide) ?_
  refine ev_iushr d_Mo_check_54 ?_
  refine ev_istore_n d_Mo_check_55 (by decide) hc2 ?_
  refine ev_iload d_Mo_check_56 rfl ?_
  exact ev_if_eq 68 d_Mo_check_58 (by decide) kt kf
theorem t_Mo_check_61 {d : Nat} {st : List Value} {o0 : Option Value} {o1 : Option Value} {o2 : Option Value} {x3 : Int32} {o4 : Option Value} {x5 : Int32} {o6 : Option Value} {w : qk_W} {nc ns : Nat} {Q : Option Value ⊕ Nat → qk_W → Nat → Nat → Prop}  (hc1 : qk_c2 [o0, o1, o2, some (.int x3), o4, some (.int x5), o6] 3 = true) (hc2 : qk_c2 [o0, o1, o2, some (.int (x3 ^^^ (-306674912))), o4, some (.int x5), o6] 5 = true) (k : Ev d m_Mo_check 14 [o0, o1, o2, some (.int (x3 ^^^ (-306674912))), o4, some (.int (x5 + 1)), o6] st w nc ns Q) : Ev d m_Mo_check 61 [o0, o1, o2, some (.int x3), o4, some (.int x5), o6] st w nc ns Q := by
  refine ev_iload_n d_Mo_check_61 rfl ?_
  refine ev_ldc (-306674912) d_Mo_check_62 lc_Mo_118 ?_
  refine ev_ixor d_Mo_check_64 ?_
  refine ev_goto 69 d_Mo_check_65 (by decide) ?_
  refine ev_istore_n d_Mo_check_69 (by decide) hc1 ?_
  refine ev_iinc 1 d_Mo_check_70 (by decide) rfl (by decide) hc2 ?_
  refine ev_goto 14 d_Mo_check_73 (by decide) ?_
  exact k
theorem t_Mo_check_68 {d : Nat} {st : List Value} {o0 : Option Value} {o1 : Option Value} {o2 : Option Value} {x3 : Int32} {o4 : Option Value} {x5 : Int32} {o6 : Option Value} {w : qk_W} {nc ns : Nat} {Q : Option Value ⊕ Nat → qk_W → Nat → Nat → Prop}  (hc1 : qk_c2 [o0, o1, o2, some (.int x3), o4, some (.int x5), o6] 3 = true) (hc2 : qk_c2 [o0, o1, o2, some (.int x3), o4, some (.int x5), o6] 5 = true) (k : Ev d m_Mo_check 14 [o0, o1, o2, some (.int x3), o4, some (.int (x5 + 1)), o6] st w nc ns Q) : Ev d m_Mo_check 68 [o0, o1, o2, some (.int x3), o4, some (.int x5), o6] st w nc ns Q := by
  refine ev_iload_n d_Mo_check_68 rfl ?_
  refine ev_istore_n d_Mo_check_69 (by decide) hc1 ?_
  refine ev_iinc 1 d_Mo_check_70 (by decide) rfl (by decide) hc2 ?_
  refine ev_goto 14 d_Mo_check_73 (by decide) ?_
  exact k
theorem t_Mo_check_76 {d : Nat} {st : List Value} {o0 : Option Value} {o1 : Option Value} {o2 : Option Value} {o3 : Option Value} {x4 : Int32} {o5 : Option Value} {o6 : Option Value} {w : qk_W} {nc ns : Nat} {Q : Option Value ⊕ Nat → qk_W → Nat → Nat → Prop}  (hc1 : qk_c2 [o0, o1, o2, o3, some (.int x4), o5, o6] 4 = true) (k : Ev d m_Mo_check 5 [o0, o1, o2, o3, some (.int (x4 + 1)), o5, o6] st w nc ns Q) : Ev d m_Mo_check 76 [o0, o1, o2, o3, some (.int x4), o5, o6] st w nc ns Q := by
  refine ev_iinc 1 d_Mo_check_76 (by decide) rfl (by decide) hc1 ?_
  refine ev_goto 5 d_Mo_check_79 (by decide) ?_
  exact k
theorem t_Mo_check_82 {d : Nat} {o0 : Option Value} {o1 : Option Value} {o2 : Option Value} {x3 : Int32} {o4 : Option Value} {o5 : Option Value} {o6 : Option Value} {w : qk_W} {nc ns : Nat} {Q : Option Value ⊕ Nat → qk_W → Nat → Nat → Prop}   (hq : Q (.inl (some (.int (x3 ^^^ (-1))))) w nc ns) : Ev d m_Mo_check 82 [o0, o1, o2, some (.int x3), o4, o5, o6] [] w nc ns Q := by
  refine ev_iload_n d_Mo_check_82 rfl ?_
  refine ev_iconst (-1) d_Mo_check_83 (by decide) ?_
  refine ev_ixor d_Mo_check_84 ?_
  exact ev_iret d_Mo_check_85 rfl rfl hq
/-! Mo_unask -/
theorem d_Mo_unask_0 : decode m_Mo_unask.2.1 0 = .ok (.iload_n 2, 1) := by decide +kernel
theorem d_Mo_unask_1 : decode m_Mo_unask.2.1 1 = .ok (.istore 4, 2) := by decide +kernel
theorem d_Mo_unask_3 : decode m_Mo_unask.2.1 3 = .ok (.iload 4, 2) := by decide +kernel
theorem d_Mo_unask_5 : decode m_Mo_unask.2.1 5 = .ok (.iload_n 3, 1) := by decide +kernel
theorem d_Mo_unask_6 : decode m_Mo_unask.2.1 6 = .ok (.if_icmp .ge 22, 3) := by decide +kernel
theorem d_Mo_unask_9 : decode m_Mo_unask.2.1 9 = .ok (.aload_n 0, 1) := by decide +kernel
theorem d_Mo_unask_10 : decode m_Mo_unask.2.1 10 = .ok (.getfield 43, 3) := by decide +kernel
theorem d_Mo_unask_13 : decode m_Mo_unask.2.1 13 = .ok (.iload_n 1, 1) := by decide +kernel
theorem d_Mo_unask_14 : decode m_Mo_unask.2.1 14 = .ok (.ldc 46, 2) := by decide +kernel
theorem d_Mo_unask_16 : decode m_Mo_unask.2.1 16 = .ok (.imul, 1) := by decide +kernel
theorem d_Mo_unask_17 : decode m_Mo_unask.2.1 17 = .ok (.iload 4, 2) := by decide +kernel
theorem d_Mo_unask_19 : decode m_Mo_unask.2.1 19 = .ok (.iadd, 1) := by decide +kernel
theorem d_Mo_unask_20 : decode m_Mo_unask.2.1 20 = .ok (.iconst 0, 1) := by decide +kernel
theorem d_Mo_unask_21 : decode m_Mo_unask.2.1 21 = .ok (.bastore, 1) := by decide +kernel
theorem d_Mo_unask_22 : decode m_Mo_unask.2.1 22 = .ok (.iinc 4 1, 3) := by decide +kernel
theorem d_Mo_unask_25 : decode m_Mo_unask.2.1 25 = .ok (.goto (-22), 3) := by decide +kernel
theorem d_Mo_unask_28 : decode m_Mo_unask.2.1 28 = .ok (.return_, 1) := by decide +kernel
theorem t_Mo_unask_0 {d : Nat} {st : List Value} {o0 : Option Value} {o1 : Option Value} {x2 : Int32} {o3 : Option Value} {o4 : Option Value} {w : qk_W} {nc ns : Nat} {Q : Option Value ⊕ Nat → qk_W → Nat → Nat → Prop}  (hc1 : qk_c2 [o0, o1, some (.int x2), o3, o4] 4 = true) (k : Ev d m_Mo_unask 3 [o0, o1, some (.int x2), o3, some (.int x2)] st w nc ns Q) : Ev d m_Mo_unask 0 [o0, o1, some (.int x2), o3, o4] st w nc ns Q := by
  refine ev_iload_n d_Mo_unask_0 rfl ?_
  refine ev_istore d_Mo_unask_1 (by decide) hc1 ?_
  exact k
theorem t_Mo_unask_3 {d : Nat} {st : List Value} {o0 : Option Value} {o1 : Option Value} {o2 : Option Value} {x3 : Int32} {x4 : Int32} {w : qk_W} {nc ns : Nat} {Q : Option Value ⊕ Nat → qk_W → Nat → Nat → Prop}   (kt : x3 ≤ x4 → Ev d m_Mo_unask 28 [o0, o1, o2, some (.int x3), some (.int x4)] st w nc ns Q) (kf : ¬ (x3 ≤ x4) → Ev d m_Mo_unask 9 [o0, o1, o2, some (.int x3), some (.int x4)] st w nc ns Q) : Ev d m_Mo_unask 3 [o0, o1, o2, some (.int x3), some (.int x4)] st w nc ns Q := by
  refine ev_iload d_Mo_unask_3 rfl ?_
  refine ev_iload_n d_Mo_unask_5 rfl ?_
  exact ev_icmp_ge 28 d_Mo_unask_6 (by decide) kt kf
theorem t_Mo_unask_9 {d : Nat} {st : List Value} {a0 : Nat} {x1 : Int32} {o2 : Option Value} {o3 : Option Value} {x4 : Int32} {fs2 : List Value} {c4 : Nat} {n6 : Nat} {f7 : Nat → Int32} {w : qk_W} {nc ns : Nat} {Q : Option Value ⊕ Nat → qk_W → Nat → Nat → Prop}  (hw1 : wo w a0 11 fs2) (hf3 : fs2[12]? = some (.ref c4)) (ha5 : wz w c4 n6 f7) (hi : vp_in ((x1 * 32768) + x4) n6) (k : Ev d m_Mo_unask 22 [some (.ref a0), some (.int x1), o2, o3, some (.int x4)] st (qk_set w c4 (.inl (.boolean, n6, .inl (upd f7 ((x1 * 32768) + x4).toNatClampNeg 0)))) nc ns Q) : Ev d m_Mo_unask 9 [some (.ref a0), some (.int x1), o2, o3, some (.int x4)] st w nc ns Q := by
  refine ev_aload_n d_Mo_unask_9 rfl rfl ?_
  refine ev_getf d_Mo_unask_10 fl_Mo_43 hw1.1 hw1.2 hf3 ?_
  refine ev_iload_n d_Mo_unask_13 rfl ?_
  refine ev_ldc 32768 d_Mo_unask_14 lc_Mo_46 ?_
  refine ev_imul d_Mo_unask_16 ?_
  refine ev_iload d_Mo_unask_17 rfl ?_
  refine ev_iadd d_Mo_unask_19 ?_
  refine ev_iconst 0 d_Mo_unask_20 (by decide) ?_
  exact ev_zast d_Mo_unask_21 ha5.1 ha5.2 hi rfl k
theorem t_Mo_unask_22 {d : Nat} {st : List Value} {o0 : Option Value} {o1 : Option Value} {o2 : Option Value} {o3 : Option Value} {x4 : Int32} {w : qk_W} {nc ns : Nat} {Q : Option Value ⊕ Nat → qk_W → Nat → Nat → Prop}  (hc1 : qk_c2 [o0, o1, o2, o3, some (.int x4)] 4 = true) (k : Ev d m_Mo_unask 3 [o0, o1, o2, o3, some (.int (x4 + 1))] st w nc ns Q) : Ev d m_Mo_unask 22 [o0, o1, o2, o3, some (.int x4)] st w nc ns Q := by
  refine ev_iinc 1 d_Mo_unask_22 (by decide) rfl (by decide) hc1 ?_
  refine ev_goto 3 d_Mo_unask_25 (by decide) ?_
  exact k
theorem t_Mo_unask_28 {d : Nat} {o0 : Option Value} {o1 : Option Value} {o2 : Option Value} {o3 : Option Value} {o4 : Option Value} {w : qk_W} {nc ns : Nat} {Q : Option Value ⊕ Nat → qk_W → Nat → Nat → Prop}   (hq : Q (.inl none) w nc ns) : Ev d m_Mo_unask 28 [o0, o1, o2, o3, o4] [] w nc ns Q := by
  exact ev_vret d_Mo_unask_28 rfl hq
/-! Mo_sendEmpty -/
theorem d_Mo_sendEmpty_0 : decode m_Mo_sendEmpty.2.1 0 = .ok (.aload_n 0, 1) := by decide +kernel
theorem d_Mo_sendEmpty_1 : decode m_Mo_sendEmpty.2.1 1 = .ok (.invokevirtual 126, 3) := by decide +kernel
theorem d_Mo_sendEmpty_4 : decode m_Mo_sendEmpty.2.1 4 = .ok (.aload_n 0, 1) := by decide +kernel
theorem d_Mo_sendEmpty_5 : decode m_Mo_sendEmpty.2.1 5 = .ok (.iload_n 1, 1) := by decide +kernel
theorem d_Mo_sendEmpty_6 : decode m_Mo_sendEmpty.2.1 6 = .ok (.bipush 8, 2) := by decide +kernel
theorem d_Mo_sendEmpty_8 : decode m_Mo_sendEmpty.2.1 8 = .ok (.invokevirtual 123, 3) := by decide +kernel
theorem d_Mo_sendEmpty_11 : decode m_Mo_sendEmpty.2.1 11 = .ok (.aload_n 0, 1) := by decide +kernel
theorem d_Mo_sendEmpty_12 : decode m_Mo_sendEmpty.2.1 12 = .ok (.iconst 0, 1) := by decide +kernel
theorem d_Mo_sendEmpty_13 : decode m_Mo_sendEmpty.2.1 13 = .ok (.bipush 24, 2) := by decide +kernel
theorem d_Mo_sendEmpty_15 : decode m_Mo_sendEmpty.2.1 15 = .ok (.invokevirtual 123, 3) := by decide +kernel
theorem d_Mo_sendEmpty_18 : decode m_Mo_sendEmpty.2.1 18 = .ok (.aload_n 0, 1) := by decide +kernel
theorem d_Mo_sendEmpty_19 : decode m_Mo_sendEmpty.2.1 19 = .ok (.aload_n 0, 1) := by decide +kernel
theorem d_Mo_sendEmpty_20 : decode m_Mo_sendEmpty.2.1 20 = .ok (.iload_n 1, 1) := by decide +kernel
theorem d_Mo_sendEmpty_21 : decode m_Mo_sendEmpty.2.1 21 = .ok (.invokevirtual 129, 3) := by decide +kernel
theorem d_Mo_sendEmpty_24 : decode m_Mo_sendEmpty.2.1 24 = .ok (.bipush 32, 2) := by decide +kernel
theorem d_Mo_sendEmpty_26 : decode m_Mo_sendEmpty.2.1 26 = .ok (.invokevirtual 123, 3) := by decide +kernel
theorem d_Mo_sendEmpty_29 : decode m_Mo_sendEmpty.2.1 29 = .ok (.aload_n 0, 1) := by decide +kernel
theorem d_Mo_sendEmpty_30 : decode m_Mo_sendEmpty.2.1 30 = .ok (.iconst 0, 1) := by decide +kernel
theorem d_Mo_sendEmpty_31 : decode m_Mo_sendEmpty.2.1 31 = .ok (.bipush 32, 2) := by decide +kernel
theorem d_Mo_sendEmpty_33 : decode m_Mo_sendEmpty.2.1 33 = .ok (.invokevirtual 123, 3) := by decide +kernel
theorem d_Mo_sendEmpty_36 : decode m_Mo_sendEmpty.2.1 36 = .ok (.aload_n 0, 1) := by decide +kernel
theorem d_Mo_sendEmpty_37 : decode m_Mo_sendEmpty.2.1 37 = .ok (.iconst 0, 1) := by decide +kernel
theorem d_Mo_sendEmpty_38 : decode m_Mo_sendEmpty.2.1 38 = .ok (.bipush 32, 2) := by decide +kernel
theorem d_Mo_sendEmpty_40 : decode m_Mo_sendEmpty.2.1 40 = .ok (.invokevirtual 123, 3) := by decide +kernel
theorem d_Mo_sendEmpty_43 : decode m_Mo_sendEmpty.2.1 43 = .ok (.aload_n 0, 1) := by decide +kernel
theorem d_Mo_sendEmpty_44 : decode m_Mo_sendEmpty.2.1 44 = .ok (.iconst 0, 1) := by decide +kernel
theorem d_Mo_sendEmpty_45 : decode m_Mo_sendEmpty.2.1 45 = .ok (.bipush 32, 2) := by decide +kernel
theorem d_Mo_sendEmpty_47 : decode m_Mo_sendEmpty.2.1 47 = .ok (.invokevirtual 123, 3) := by decide +kernel
theorem d_Mo_sendEmpty_50 : decode m_Mo_sendEmpty.2.1 50 = .ok (.aload_n 0, 1) := by decide +kernel
theorem d_Mo_sendEmpty_51 : decode m_Mo_sendEmpty.2.1 51 = .ok (.invokevirtual 132, 3) := by decide +kernel
theorem d_Mo_sendEmpty_54 : decode m_Mo_sendEmpty.2.1 54 = .ok (.ireturn, 1) := by decide +kernel
theorem t_Mo_sendEmpty_0 {d : Nat} {st : List Value} {a0 : Nat} {o1 : Option Value} {fsb : List Value} {w : qk_W} {nc ns : Nat} {Q : Option Value ⊕ Nat → qk_W → Nat → Nat → Prop}  (hb : wo w a0 11 fsb) (h8 : (st.map fun v => Value.category v).sum ≤ 8) (k : Ev d m_Mo_begin 0 [some (.ref a0), none] [] w nc ns (fun r w1 nc1 ns1 => match r with | .inl v => Ev (d + 1) m_Mo_sendEmpty 4 [some (.ref a0), o1] (v.toList ++ st) w1 nc1 ns1 Q | .inr x => Q (.inr x) w1 nc1 ns1)) : Ev (d + 1) m_Mo_sendEmpty 0 [some (.ref a0), o1] st w nc ns Q := by
  refine ev_aload_n d_Mo_sendEmpty_0 rfl rfl ?_
  exact ev_call (M' := m_Mo_begin) (As := [.ref a0]) (st := st) d_Mo_sendEmpty_1 i_Mo_begin (fun h => absurd h (by decide +kernel)) cw_Mo_126 rfl rfl ⟨hb.1, 11, _, _, hb.2, rfl, rfl⟩ rfl (Nat.le_of_ble_eq_true rfl) h8 k
theorem t_Mo_sendEmpty_4 {d : Nat} {st : List Value} {a0 : Nat} {x1 : Int32} {fsb : List Value} {w : qk_W} {nc ns : Nat} {Q : Option Value ⊕ Nat → qk_W → Nat → Nat → Prop}  (hb : wo w a0 11 fsb) (h8 : (st.map fun v => Value.category v).sum ≤ 8) (k : Ev d m_Mo_put 0 [some (.ref a0), some (.int x1), some (.int 8), none, none] [] w nc ns (fun r w1 nc1 ns1 => match r with | .inl v => Ev (d + 1) m_Mo_sendEmpty 11 [some (.ref a0), some (.int x1)] (v.toList ++ st) w1 nc1 ns1 Q | .inr x => Q (.inr x) w1 nc1 ns1)) : Ev (d + 1) m_Mo_sendEmpty 4 [some (.ref a0), some (.int x1)] st w nc ns Q := by
  refine ev_aload_n d_Mo_sendEmpty_4 rfl rfl ?_
  refine ev_iload_n d_Mo_sendEmpty_5 rfl ?_
  refine ev_bipush 8 d_Mo_sendEmpty_6 (by decide) ?_
  exact ev_call (M' := m_Mo_put) (As := [.ref a0, .int x1, .int 8]) (st := st) d_Mo_sendEmpty_8 i_Mo_put (fun h => absurd h (by decide +kernel)) cw_Mo_123 rfl rfl ⟨hb.1, 11, _, _, hb.2, rfl, rfl⟩ rfl (Nat.le_of_ble_eq_true rfl) h8 k
theorem t_Mo_sendEmpty_11 {d : Nat} {st : List Value} {a0 : Nat} {o1 : Option Value} {fsb : List Value} {w : qk_W} {nc ns : Nat} {Q : Option Value ⊕ Nat → qk_W → Nat → Nat → Prop}  (hb : wo w a0 11 fsb) (h8 : (st.map fun v => Value.category v).sum ≤ 8) (k : Ev d m_Mo_put 0 [some (.ref a0), some (.int 0), some (.int 24), none, none] [] w nc ns (fun r w1 nc1 ns1 => match r with | .inl v => Ev (d + 1) m_Mo_sendEmpty 18 [some (.ref a0), o1] (v.toList ++ st) w1 nc1 ns1 Q | .inr x => Q (.inr x) w1 nc1 ns1)) : Ev (d + 1) m_Mo_sendEmpty 11 [some (.ref a0), o1] st w nc ns Q := by
  refine ev_aload_n d_Mo_sendEmpty_11 rfl rfl ?_
  refine ev_iconst 0 d_Mo_sendEmpty_12 (by decide) ?_
  refine ev_bipush 24 d_Mo_sendEmpty_13 (by decide) ?_
  exact ev_call (M' := m_Mo_put) (As := [.ref a0, .int 0, .int 24]) (st := st) d_Mo_sendEmpty_15 i_Mo_put (fun h => absurd h (by decide +kernel)) cw_Mo_123 rfl rfl ⟨hb.1, 11, _, _, hb.2, rfl, rfl⟩ rfl (Nat.le_of_ble_eq_true rfl) h8 k
theorem t_Mo_sendEmpty_18 {d : Nat} {st : List Value} {a0 : Nat} {x1 : Int32} {fsb : List Value} {w : qk_W} {nc ns : Nat} {Q : Option Value ⊕ Nat → qk_W → Nat → Nat → Prop}  (hb : wo w a0 11 fsb) (h8 : ((.ref a0 :: st).map fun v => Value.category v).sum ≤ 8) (k : Ev d m_Mo_oldest 0 [some (.ref a0), some (.int x1), none] [] w nc ns (fun r w1 nc1 ns1 => match r with | .inl v => Ev (d + 1) m_Mo_sendEmpty 24 [some (.ref a0), some (.int x1)] (v.toList ++ (.ref a0 :: st)) w1 nc1 ns1 Q | .inr x => Q (.inr x) w1 nc1 ns1)) : Ev (d + 1) m_Mo_sendEmpty 18 [some (.ref a0), some (.int x1)] st w nc ns Q := by
  refine ev_aload_n d_Mo_sendEmpty_18 rfl rfl ?_
  refine ev_aload_n d_Mo_sendEmpty_19 rfl rfl ?_
  refine ev_iload_n d_Mo_sendEmpty_20 rfl ?_
  exact ev_call (M' := m_Mo_oldest) (As := [.ref a0, .int x1]) (st := (.ref a0 :: st)) d_Mo_sendEmpty_21 i_Mo_oldest (fun h => absurd h (by decide +kernel)) cw_Mo_129 rfl rfl ⟨hb.1, 11, _, _, hb.2, rfl, rfl⟩ rfl (Nat.le_of_ble_eq_true rfl) h8 k
theorem t_Mo_sendEmpty_24 {d : Nat} {st : List Value} {o0 : Option Value} {o1 : Option Value} {y0 : Int32} {b1 : Nat} {fsb : List Value} {w : qk_W} {nc ns : Nat} {Q : Option Value ⊕ Nat → qk_W → Nat → Nat → Prop}  (hb : wo w b1 11 fsb) (h8 : (st.map fun v => Value.category v).sum ≤ 8) (k : Ev d m_Mo_put 0 [some (.ref b1), some (.int y0), some (.int 32), none, none] [] w nc ns (fun r w1 nc1 ns1 => match r with | .inl v => Ev (d + 1) m_Mo_sendEmpty 29 [o0, o1] (v.toList ++ st) w1 nc1 ns1 Q | .inr x => Q (.inr x) w1 nc1 ns1)) : Ev (d + 1) m_Mo_sendEmpty 24 [o0, o1] (.int y0 :: .ref b1 :: st) w nc ns Q := by
  refine ev_bipush 32 d_Mo_sendEmpty_24 (by decide) ?_
  exact ev_call (M' := m_Mo_put) (As := [.ref b1, .int y0, .int 32]) (st := st) d_Mo_sendEmpty_26 i_Mo_put (fun h => absurd h (by decide +kernel)) cw_Mo_123 rfl rfl ⟨hb.1, 11, _, _, hb.2, rfl, rfl⟩ rfl (Nat.le_of_ble_eq_true rfl) h8 k
theorem t_Mo_sendEmpty_29 {d : Nat} {st : List Value} {a0 : Nat} {o1 : Option Value} {fsb : List Value} {w : qk_W} {nc ns : Nat} {Q : Option Value ⊕ Nat → qk_W → Nat → Nat → Prop}  (hb : wo w a0 11 fsb) (h8 : (st.map fun v => Value.category v).sum ≤ 8) (k : Ev d m_Mo_put 0 [some (.ref a0), some (.int 0), some (.int 32), none, none] [] w nc ns (fun r w1 nc1 ns1 => match r with | .inl v => Ev (d + 1) m_Mo_sendEmpty 36 [some (.ref a0), o1] (v.toList ++ st) w1 nc1 ns1 Q | .inr x => Q (.inr x) w1 nc1 ns1)) : Ev (d + 1) m_Mo_sendEmpty 29 [some (.ref a0), o1] st w nc ns Q := by
  refine ev_aload_n d_Mo_sendEmpty_29 rfl rfl ?_
  refine ev_iconst 0 d_Mo_sendEmpty_30 (by decide) ?_
  refine ev_bipush 32 d_Mo_sendEmpty_31 (by decide) ?_
  exact ev_call (M' := m_Mo_put) (As := [.ref a0, .int 0, .int 32]) (st := st) d_Mo_sendEmpty_33 i_Mo_put (fun h => absurd h (by decide +kernel)) cw_Mo_123 rfl rfl ⟨hb.1, 11, _, _, hb.2, rfl, rfl⟩ rfl (Nat.le_of_ble_eq_true rfl) h8 k
theorem t_Mo_sendEmpty_36 {d : Nat} {st : List Value} {a0 : Nat} {o1 : Option Value} {fsb : List Value} {w : qk_W} {nc ns : Nat} {Q : Option Value ⊕ Nat → qk_W → Nat → Nat → Prop}  (hb : wo w a0 11 fsb) (h8 : (st.map fun v => Value.category v).sum ≤ 8) (k : Ev d m_Mo_put 0 [some (.ref a0), some (.int 0), some (.int 32), none, none] [] w nc ns (fun r w1 nc1 ns1 => match r with | .inl v => Ev (d + 1) m_Mo_sendEmpty 43 [some (.ref a0), o1] (v.toList ++ st) w1 nc1 ns1 Q | .inr x => Q (.inr x) w1 nc1 ns1)) : Ev (d + 1) m_Mo_sendEmpty 36 [some (.ref a0), o1] st w nc ns Q := by
  refine ev_aload_n d_Mo_sendEmpty_36 rfl rfl ?_
  refine ev_iconst 0 d_Mo_sendEmpty_37 (by decide) ?_
  refine ev_bipush 32 d_Mo_sendEmpty_38 (by decide) ?_
  exact ev_call (M' := m_Mo_put) (As := [.ref a0, .int 0, .int 32]) (st := st) d_Mo_sendEmpty_40 i_Mo_put (fun h => absurd h (by decide +kernel)) cw_Mo_123 rfl rfl ⟨hb.1, 11, _, _, hb.2, rfl, rfl⟩ rfl (Nat.le_of_ble_eq_true rfl) h8 k
theorem t_Mo_sendEmpty_43 {d : Nat} {st : List Value} {a0 : Nat} {o1 : Option Value} {fsb : List Value} {w : qk_W} {nc ns : Nat} {Q : Option Value ⊕ Nat → qk_W → Nat → Nat → Prop}  (hb : wo w a0 11 fsb) (h8 : (st.map fun v => Value.category v).sum ≤ 8) (k : Ev d m_Mo_put 0 [some (.ref a0), some (.int 0), some (.int 32), none, none] [] w nc ns (fun r w1 nc1 ns1 => match r with | .inl v => Ev (d + 1) m_Mo_sendEmpty 50 [some (.ref a0), o1] (v.toList ++ st) w1 nc1 ns1 Q | .inr x => Q (.inr x) w1 nc1 ns1)) : Ev (d + 1) m_Mo_sendEmpty 43 [some (.ref a0), o1] st w nc ns Q := by
  refine ev_aload_n d_Mo_sendEmpty_43 rfl rfl ?_
  refine ev_iconst 0 d_Mo_sendEmpty_44 (by decide) ?_
  refine ev_bipush 32 d_Mo_sendEmpty_45 (by decide) ?_
  exact ev_call (M' := m_Mo_put) (As := [.ref a0, .int 0, .int 32]) (st := st) d_Mo_sendEmpty_47 i_Mo_put (fun h => absurd h (by decide +kernel)) cw_Mo_123 rfl rfl ⟨hb.1, 11, _, _, hb.2, rfl, rfl⟩ rfl (Nat.le_of_ble_eq_true rfl) h8 k
theorem t_Mo_sendEmpty_50 {d : Nat} {st : List Value} {a0 : Nat} {o1 : Option Value} {fsb : List Value} {w : qk_W} {nc ns : Nat} {Q : Option Value ⊕ Nat → qk_W → Nat → Nat → Prop}  (hb : wo w a0 11 fsb) (h8 : (st.map fun v => Value.category v).sum ≤ 8) (k : Ev d m_Mo_end 0 [some (.ref a0)] [] w nc ns (fun r w1 nc1 ns1 => match r with | .inl v => Ev (d + 1) m_Mo_sendEmpty 54 [some (.ref a0), o1] (v.toList ++ st) w1 nc1 ns1 Q | .inr x => Q (.inr x) w1 nc1 ns1)) : Ev (d + 1) m_Mo_sendEmpty 50 [some (.ref a0), o1] st w nc ns Q := by
  refine ev_aload_n d_Mo_sendEmpty_50 rfl rfl ?_
  exact ev_call (M' := m_Mo_end) (As := [.ref a0]) (st := st) d_Mo_sendEmpty_51 i_Mo_end (fun h => absurd h (by decide +kernel)) cw_Mo_132 rfl rfl ⟨hb.1, 11, _, _, hb.2, rfl, rfl⟩ rfl (Nat.le_of_ble_eq_true rfl) h8 k
theorem t_Mo_sendEmpty_54 {d : Nat} {o0 : Option Value} {o1 : Option Value} {y0 : Int32} {w : qk_W} {nc ns : Nat} {Q : Option Value ⊕ Nat → qk_W → Nat → Nat → Prop}   (hq : Q (.inl (some (.int y0))) w nc ns) : Ev d m_Mo_sendEmpty 54 [o0, o1] [.int y0] w nc ns Q := by
  exact ev_iret d_Mo_sendEmpty_54 rfl rfl hq
/-! Mo_lose -/
theorem cw_Mo_153 : qk_cw "QuakeLinkModel" m_Mo_isSlot.1 (.invokevirtual 153) := ⟨(lw_i5 _ (List.mem_of_getElem? (i := 138) rfl)), (lw_i5 _ (List.mem_of_getElem? (i := 140) rfl)), (lw_i0 _ (List.mem_of_getElem? (i := 36) rfl))⟩
theorem d_Mo_lose_0 : decode m_Mo_lose.2.1 0 = .ok (.aload_n 0, 1) := by decide +kernel
theorem d_Mo_lose_1 : decode m_Mo_lose.2.1 1 = .ok (.aload_n 0, 1) := by decide +kernel
theorem d_Mo_lose_2 : decode m_Mo_lose.2.1 2 = .ok (.iload_n 1, 1) := by decide +kernel
theorem d_Mo_lose_3 : decode m_Mo_lose.2.1 3 = .ok (.invokevirtual 153, 3) := by decide +kernel
theorem d_Mo_lose_6 : decode m_Mo_lose.2.1 6 = .ok (.ifCond .eq 7, 3) := by decide +kernel
theorem d_Mo_lose_9 : decode m_Mo_lose.2.1 9 = .ok (.iconst 0, 1) := by decide +kernel
theorem d_Mo_lose_10 : decode m_Mo_lose.2.1 10 = .ok (.goto 4, 3) := by decide +kernel
theorem d_Mo_lose_13 : decode m_Mo_lose.2.1 13 = .ok (.iconst 1, 1) := by decide +kernel
theorem d_Mo_lose_14 : decode m_Mo_lose.2.1 14 = .ok (.putfield 69, 3) := by decide +kernel
theorem d_Mo_lose_17 : decode m_Mo_lose.2.1 17 = .ok (.aload_n 0, 1) := by decide +kernel
theorem d_Mo_lose_18 : decode m_Mo_lose.2.1 18 = .ok (.getfield 69, 3) := by decide +kernel
theorem d_Mo_lose_21 : decode m_Mo_lose.2.1 21 = .ok (.ifCond .ne 13, 3) := by decide +kernel
theorem d_Mo_lose_24 : decode m_Mo_lose.2.1 24 = .ok (.aload_n 0, 1) := by decide +kernel
theorem d_Mo_lose_25 : decode m_Mo_lose.2.1 25 = .ok (.getfield 54, 3) := by decide +kernel
theorem d_Mo_lose_28 : decode m_Mo_lose.2.1 28 = .ok (.iload_n 1, 1) := by decide +kernel
theorem d_Mo_lose_29 : decode m_Mo_lose.2.1 29 = .ok (.bipush 64, 2) := by decide +kernel
theorem d_Mo_lose_31 : decode m_Mo_lose.2.1 31 = .ok (.irem, 1) := by decide +kernel
theorem d_Mo_lose_32 : decode m_Mo_lose.2.1 32 = .ok (.iconst 1, 1) := by decide +kernel
theorem d_Mo_lose_33 : decode m_Mo_lose.2.1 33 = .ok (.bastore, 1) := by decide +kernel
theorem d_Mo_lose_34 : decode m_Mo_lose.2.1 34 = .ok (.return_, 1) := by decide +kernel
theorem t_Mo_lose_0 {d : Nat} {st : List Value} {a0 : Nat} {x1 : Int32} {fsb : List Value} {w : qk_W} {nc ns : Nat} {Q : Option Value ⊕ Nat → qk_W → Nat → Nat → Prop}  (hb : wo w a0 11 fsb) (h8 : ((.ref a0 :: st).map fun v => Value.category v).sum ≤ 8) (k : Ev d m_Mo_isSlot 0 [some (.ref a0), some (.int x1)] [] w nc ns (fun r w1 nc1 ns1 => match r with | .inl v => Ev (d + 1) m_Mo_lose 6 [some (.ref a0), some (.int x1)] (v.toList ++ (.ref a0 :: st)) w1 nc1 ns1 Q | .inr x => Q (.inr x) w1 nc1 ns1)) : Ev (d + 1) m_Mo_lose 0 [some (.ref a0), some (.int x1)] st w nc ns Q := by
  refine ev_aload_n d_Mo_lose_0 rfl rfl ?_
  refine ev_aload_n d_Mo_lose_1 rfl rfl ?_
  refine ev_iload_n d_Mo_lose_2 rfl ?_
  exact ev_call (M' := m_Mo_isSlot) (As := [.ref a0, .int x1]) (st := (.ref a0 :: st)) d_Mo_lose_3 i_Mo_isSlot (fun h => absurd h (by decide +kernel)) cw_Mo_153 rfl rfl ⟨hb.1, 11, _, _, hb.2, rfl, rfl⟩ rfl (Nat.le_of_ble_eq_true rfl) h8 k
theorem t_Mo_lose_6 {d : Nat} {st : List Value} {o0 : Option Value} {o1 : Option Value} {y0 : Int32} {w : qk_W} {nc ns : Nat} {Q : Option Value ⊕ Nat → qk_W → Nat → Nat → Prop}   (kt : y0 = 0 → Ev d m_Mo_lose 13 [o0, o1] st w nc ns Q) (kf : ¬ (y0 = 0) → Ev d m_Mo_lose 9 [o0, o1] st w nc ns Q) : Ev d m_Mo_lose 6 [o0, o1] (.int y0 :: st) w nc ns Q := by
  exact ev_if_eq 13 d_Mo_lose_6 (by decide) kt kf
theorem t_Mo_lose_9 {d : Nat} {st : List Value} {o0 : Option Value} {o1 : Option Value} {b0 : Nat} {fs2 : List Value} {w : qk_W} {nc ns : Nat} {Q : Option Value ⊕ Nat → qk_W → Nat → Nat → Prop}  (hw1 : wo w b0 11 fs2) (hk : 0 < fs2.length) (k : Ev d m_Mo_lose 17 [o0, o1] st (qk_set w b0 (.inr (11, fs2.set 0 (.int 0)))) nc ns Q) : Ev d m_Mo_lose 9 [o0, o1] (.ref b0 :: st) w nc ns Q := by
  refine ev_iconst 0 d_Mo_lose_9 (by decide) ?_
  refine ev_goto 14 d_Mo_lose_10 (by decide) ?_
  exact ev_putf d_Mo_lose_14 fl_Mo_69 rfl hw1.1 hw1.2 hk (qk_fitI _) k
theorem t_Mo_lose_13 {d : Nat} {st : List Value} {o0 : Option Value} {o1 : Option Value} {b0 : Nat} {fs2 : List Value} {w : qk_W} {nc ns : Nat} {Q : Option Value ⊕ Nat → qk_W → Nat → Nat → Prop}  (hw1 : wo w b0 11 fs2) (hk : 0 < fs2.length) (k : Ev d m_Mo_lose 17 [o0, o1] st (qk_set w b0 (.inr (11, fs2.set 0 (.int 1)))) nc ns Q) : Ev d m_Mo_lose 13 [o0, o1] (.ref b0 :: st) w nc ns Q := by
  refine ev_iconst 1 d_Mo_lose_13 (by decide) ?_
  exact ev_putf d_Mo_lose_14 fl_Mo_69 rfl hw1.1 hw1.2 hk (qk_fitI _) k
theorem t_Mo_lose_17 {d : Nat} {st : List Value} {a0 : Nat} {o1 : Option Value} {fs2 : List Value} {n4 : Int32} {w : qk_W} {nc ns : Nat} {Q : Option Value ⊕ Nat → qk_W → Nat → Nat → Prop}  (hw1 : wo w a0 11 fs2) (hf3 : fs2[0]? = some (.int n4)) (kt : ¬ n4 = 0 → Ev d m_Mo_lose 34 [some (.ref a0), o1] st w nc ns Q) (kf : n4 = 0 → Ev d m_Mo_lose 24 [some (.ref a0), o1] st w nc ns Q) : Ev d m_Mo_lose 17 [some (.ref a0), o1] st w nc ns Q := by
  refine ev_aload_n d_Mo_lose_17 rfl rfl ?_
  refine ev_getf d_Mo_lose_18 fl_Mo_69 hw1.1 hw1.2 hf3 ?_
  exact ev_if_ne 34 d_Mo_lose_21 (by decide) kt kf
theorem t_Mo_lose_24 {d : Nat} {st : List Value} {a0 : Nat} {x1 : Int32} {fs2 : List Value} {c4 : Nat} {n6 : Nat} {f7 : Nat → Int32} {w : qk_W} {nc ns : Nat} {Q : Option Value ⊕ Nat → qk_W → Nat → Nat → Prop}  (hw1 : wo w a0 11 fs2) (hf3 : fs2[16]? = some (.ref c4)) (ha5 : wz w c4 n6 f7) (hi : vp_in (qi_rem x1 64) n6) (k : Ev d m_Mo_lose 34 [some (.ref a0), some (.int x1)] st (qk_set w c4 (.inl (.boolean, n6, .inl (upd f7 (qi_rem x1 64).toNatClampNeg 1)))) nc ns Q) : Ev d m_Mo_lose 24 [some (.ref a0), some (.int x1)] st w nc ns Q := by
  refine ev_aload_n d_Mo_lose_24 rfl rfl ?_
  refine ev_getf d_Mo_lose_25 fl_Mo_54 hw1.1 hw1.2 hf3 ?_
  refine ev_iload_n d_Mo_lose_28 rfl ?_
  refine ev_bipush 64 d_Mo_lose_29 (by decide) ?_
  refine ev_irem d_Mo_lose_31 (by decide) ?_
  refine ev_iconst 1 d_Mo_lose_32 (by decide) ?_
  exact ev_zast d_Mo_lose_33 ha5.1 ha5.2 hi rfl k
theorem t_Mo_lose_34 {d : Nat} {o0 : Option Value} {o1 : Option Value} {w : qk_W} {nc ns : Nat} {Q : Option Value ⊕ Nat → qk_W → Nat → Nat → Prop}   (hq : Q (.inl none) w nc ns) : Ev d m_Mo_lose 34 [o0, o1] [] w nc ns Q := by
  exact ev_vret d_Mo_lose_34 rfl hq
/-! Mo_isSlot -/
theorem d_Mo_isSlot_0 : decode m_Mo_isSlot.2.1 0 = .ok (.iload_n 1, 1) := by decide +kernel
theorem d_Mo_isSlot_1 : decode m_Mo_isSlot.2.1 1 = .ok (.ifCond .lt 38, 3) := by decide +kernel
theorem d_Mo_isSlot_4 : decode m_Mo_isSlot.2.1 4 = .ok (.iload_n 1, 1) := by decide +kernel
theorem d_Mo_isSlot_5 : decode m_Mo_isSlot.2.1 5 = .ok (.aload_n 0, 1) := by decide +kernel
theorem d_Mo_isSlot_6 : decode m_Mo_isSlot.2.1 6 = .ok (.getfield 109, 3) := by decide +kernel
theorem d_Mo_isSlot_9 : decode m_Mo_isSlot.2.1 9 = .ok (.if_icmp .ge 30, 3) := by decide +kernel
theorem d_Mo_isSlot_12 : decode m_Mo_isSlot.2.1 12 = .ok (.iload_n 1, 1) := by decide +kernel
theorem d_Mo_isSlot_13 : decode m_Mo_isSlot.2.1 13 = .ok (.aload_n 0, 1) := by decide +kernel
theorem d_Mo_isSlot_14 : decode m_Mo_isSlot.2.1 14 = .ok (.getfield 109, 3) := by decide +kernel
theorem d_Mo_isSlot_17 : decode m_Mo_isSlot.2.1 17 = .ok (.bipush 64, 2) := by decide +kernel
theorem d_Mo_isSlot_19 : decode m_Mo_isSlot.2.1 19 = .ok (.isub, 1) := by decide +kernel
theorem d_Mo_isSlot_20 : decode m_Mo_isSlot.2.1 20 = .ok (.if_icmp .lt 19, 3) := by decide +kernel
theorem d_Mo_isSlot_23 : decode m_Mo_isSlot.2.1 23 = .ok (.aload_n 0, 1) := by decide +kernel
theorem d_Mo_isSlot_24 : decode m_Mo_isSlot.2.1 24 = .ok (.getfield 54, 3) := by decide +kernel
theorem d_Mo_isSlot_27 : decode m_Mo_isSlot.2.1 27 = .ok (.iload_n 1, 1) := by decide +kernel
theorem d_Mo_isSlot_28 : decode m_Mo_isSlot.2.1 28 = .ok (.bipush 64, 2) := by decide +kernel
theorem d_Mo_isSlot_30 : decode m_Mo_isSlot.2.1 30 = .ok (.irem, 1) := by decide +kernel
theorem d_Mo_isSlot_31 : decode m_Mo_isSlot.2.1 31 = .ok (.baload, 1) := by decide +kernel
theorem d_Mo_isSlot_32 : decode m_Mo_isSlot.2.1 32 = .ok (.ifCond .ne 7, 3) := by decide +kernel
theorem d_Mo_isSlot_35 : decode m_Mo_isSlot.2.1 35 = .ok (.iconst 1, 1) := by decide +kernel
theorem d_Mo_isSlot_36 : decode m_Mo_isSlot.2.1 36 = .ok (.goto 4, 3) := by decide +kernel
theorem d_Mo_isSlot_39 : decode m_Mo_isSlot.2.1 39 = .ok (.iconst 0, 1) := by decide +kernel
theorem d_Mo_isSlot_40 : decode m_Mo_isSlot.2.1 40 = .ok (.ireturn, 1) := by decide +kernel
theorem t_Mo_isSlot_0 {d : Nat} {st : List Value} {o0 : Option Value} {x1 : Int32} {w : qk_W} {nc ns : Nat} {Q : Option Value ⊕ Nat → qk_W → Nat → Nat → Prop}   (kt : x1 < 0 → Ev d m_Mo_isSlot 39 [o0, some (.int x1)] st w nc ns Q) (kf : ¬ (x1 < 0) → Ev d m_Mo_isSlot 4 [o0, some (.int x1)] st w nc ns Q) : Ev d m_Mo_isSlot 0 [o0, some (.int x1)] st w nc ns Q := by
  refine ev_iload_n d_Mo_isSlot_0 rfl ?_
  exact ev_if_lt 39 d_Mo_isSlot_1 (by decide) kt kf
theorem t_Mo_isSlot_4 {d : Nat} {st : List Value} {a0 : Nat} {x1 : Int32} {fs2 : List Value} {n4 : Int32} {w : qk_W} {nc ns : Nat} {Q : Option Value ⊕ Nat → qk_W → Nat → Nat → Prop}  (hw1 : wo w a0 11 fs2) (hf3 : fs2[17]? = some (.int n4)) (kt : n4 ≤ x1 → Ev d m_Mo_isSlot 39 [some (.ref a0), some (.int x1)] st w nc ns Q) (kf : ¬ (n4 ≤ x1) → Ev d m_Mo_isSlot 12 [some (.ref a0), some (.int x1)] st w nc ns Q) : Ev d m_Mo_isSlot 4 [some (.ref a0), some (.int x1)] st w nc ns Q := by
  refine ev_iload_n d_Mo_isSlot_4 rfl ?_
  refine ev_aload_n d_Mo_isSlot_5 rfl rfl ?_
  refine ev_getf d_Mo_isSlot_6 fl_Mo_109 hw1.1 hw1.2 hf3 ?_
  exact ev_icmp_ge 39 d_Mo_isSlot_9 (by decide) kt kf
theorem t_Mo_isSlot_12 {d : Nat} {st : List Value} {a0 : Nat} {x1 : Int32} {fs2 : List Value} {n4 : Int32} {w : qk_W} {nc ns : Nat} {Q : Option Value ⊕ Nat → qk_W → Nat → Nat → Prop}  (hw1 : wo w a0 11 fs2) (hf3 : fs2[17]? = some (.int n4)) (kt : x1 < (n4 - 64) → Ev d m_Mo_isSlot 39 [some (.ref a0), some (.int x1)] st w nc ns Q) (kf : ¬ (x1 < (n4 - 64)) → Ev d m_Mo_isSlot 23 [some (.ref a0), some (.int x1)] st w nc ns Q) : Ev d m_Mo_isSlot 12 [some (.ref a0), some (.int x1)] st w nc ns Q := by
  refine ev_iload_n d_Mo_isSlot_12 rfl ?_
  refine ev_aload_n d_Mo_isSlot_13 rfl rfl ?_
  refine ev_getf d_Mo_isSlot_14 fl_Mo_109 hw1.1 hw1.2 hf3 ?_
  refine ev_bipush 64 d_Mo_isSlot_17 (by decide) ?_
  refine ev_isub d_Mo_isSlot_19 ?_
  exact ev_icmp_lt 39 d_Mo_isSlot_20 (by decide) kt kf
theorem t_Mo_isSlot_23 {d : Nat} {st : List Value} {a0 : Nat} {x1 : Int32} {fs2 : List Value} {c4 : Nat} {n6 : Nat} {f7 : Nat → Int32} {w : qk_W} {nc ns : Nat} {Q : Option Value ⊕ Nat → qk_W → Nat → Nat → Prop}  (hw1 : wo w a0 11 fs2) (hf3 : fs2[16]? = some (.ref c4)) (ha5 : wz w c4 n6 f7) (hi8 : vp_in (qi_rem x1 64) n6) (kt : ¬ (f7 (qi_rem x1 64).toNatClampNeg) = 0 → Ev d m_Mo_isSlot 39 [some (.ref a0), some (.int x1)] st w nc ns Q) (kf : (f7 (qi_rem x1 64).toNatClampNeg) = 0 → Ev d m_Mo_isSlot 35 [some (.ref a0), some (.int x1)] st w nc ns Q) : Ev d m_Mo_isSlot 23 [some (.ref a0), some (.int x1)] st w nc ns Q := by
  refine ev_aload_n d_Mo_isSlot_23 rfl rfl ?_
  refine ev_getf d_Mo_isSlot_24 fl_Mo_54 hw1.1 hw1.2 hf3 ?_
  refine ev_iload_n d_Mo_isSlot_27 rfl ?_
  refine ev_bipush 64 d_Mo_isSlot_28 (by decide) ?_
  refine ev_irem d_Mo_isSlot_30 (by decide) ?_
  refine ev_zald d_Mo_isSlot_31 ha5.1 ha5.2 hi8 ?_
  exact ev_if_ne 39 d_Mo_isSlot_32 (by decide) kt kf
theorem t_Mo_isSlot_35 {d : Nat} {o0 : Option Value} {o1 : Option Value} {w : qk_W} {nc ns : Nat} {Q : Option Value ⊕ Nat → qk_W → Nat → Nat → Prop}   (hq : Q (.inl (some (.int 1))) w nc ns) : Ev d m_Mo_isSlot 35 [o0, o1] [] w nc ns Q := by
  refine ev_iconst 1 d_Mo_isSlot_35 (by decide) ?_
  refine ev_goto 40 d_Mo_isSlot_36 (by decide) ?_
  exact ev_iret d_Mo_isSlot_40 rfl rfl hq
theorem t_Mo_isSlot_39 {d : Nat} {o0 : Option Value} {o1 : Option Value} {w : qk_W} {nc ns : Nat} {Q : Option Value ⊕ Nat → qk_W → Nat → Nat → Prop}   (hq : Q (.inl (some (.int 0))) w nc ns) : Ev d m_Mo_isSlot 39 [o0, o1] [] w nc ns Q := by
  refine ev_iconst 0 d_Mo_isSlot_39 (by decide) ?_
  exact ev_iret d_Mo_isSlot_40 rfl rfl hq
/-! Mo_length -/
theorem d_Mo_length_0 : decode m_Mo_length.2.1 0 = .ok (.aload_n 0, 1) := by decide +kernel
theorem d_Mo_length_1 : decode m_Mo_length.2.1 1 = .ok (.aload_n 0, 1) := by decide +kernel
theorem d_Mo_length_2 : decode m_Mo_length.2.1 2 = .ok (.iload_n 1, 1) := by decide +kernel
theorem d_Mo_length_3 : decode m_Mo_length.2.1 3 = .ok (.invokevirtual 153, 3) := by decide +kernel
theorem d_Mo_length_6 : decode m_Mo_length.2.1 6 = .ok (.ifCond .eq 7, 3) := by decide +kernel
theorem d_Mo_length_9 : decode m_Mo_length.2.1 9 = .ok (.iconst 0, 1) := by decide +kernel
theorem d_Mo_length_10 : decode m_Mo_length.2.1 10 = .ok (.goto 4, 3) := by decide +kernel
theorem d_Mo_length_13 : decode m_Mo_length.2.1 13 = .ok (.iconst 1, 1) := by decide +kernel
theorem d_Mo_length_14 : decode m_Mo_length.2.1 14 = .ok (.putfield 69, 3) := by decide +kernel
theorem d_Mo_length_17 : decode m_Mo_length.2.1 17 = .ok (.aload_n 0, 1) := by decide +kernel
theorem d_Mo_length_18 : decode m_Mo_length.2.1 18 = .ok (.getfield 69, 3) := by decide +kernel
theorem d_Mo_length_21 : decode m_Mo_length.2.1 21 = .ok (.ifCond .le 7, 3) := by decide +kernel
theorem d_Mo_length_24 : decode m_Mo_length.2.1 24 = .ok (.iconst 0, 1) := by decide +kernel
theorem d_Mo_length_25 : decode m_Mo_length.2.1 25 = .ok (.goto 12, 3) := by decide +kernel
theorem d_Mo_length_28 : decode m_Mo_length.2.1 28 = .ok (.aload_n 0, 1) := by decide +kernel
theorem d_Mo_length_29 : decode m_Mo_length.2.1 29 = .ok (.getfield 51, 3) := by decide +kernel
theorem d_Mo_length_32 : decode m_Mo_length.2.1 32 = .ok (.iload_n 1, 1) := by decide +kernel
theorem d_Mo_length_33 : decode m_Mo_length.2.1 33 = .ok (.bipush 64, 2) := by decide +kernel
theorem d_Mo_length_35 : decode m_Mo_length.2.1 35 = .ok (.irem, 1) := by decide +kernel
theorem d_Mo_length_36 : decode m_Mo_length.2.1 36 = .ok (.iaload, 1) := by decide +kernel
theorem d_Mo_length_37 : decode m_Mo_length.2.1 37 = .ok (.ireturn, 1) := by decide +kernel
theorem t_Mo_length_0 {d : Nat} {st : List Value} {a0 : Nat} {x1 : Int32} {fsb : List Value} {w : qk_W} {nc ns : Nat} {Q : Option Value ⊕ Nat → qk_W → Nat → Nat → Prop}  (hb : wo w a0 11 fsb) (h8 : ((.ref a0 :: st).map fun v => Value.category v).sum ≤ 8) (k : Ev d m_Mo_isSlot 0 [some (.ref a0), some (.int x1)] [] w nc ns (fun r w1 nc1 ns1 => match r with | .inl v => Ev (d + 1) m_Mo_length 6 [some (.ref a0), some (.int x1)] (v.toList ++ (.ref a0 :: st)) w1 nc1 ns1 Q | .inr x => Q (.inr x) w1 nc1 ns1)) : Ev (d + 1) m_Mo_length 0 [some (.ref a0), some (.int x1)] st w nc ns Q := by
  refine ev_aload_n d_Mo_length_0 rfl rfl ?_
  refine ev_aload_n d_Mo_length_1 rfl rfl ?_
  refine ev_iload_n d_Mo_length_2 rfl ?_
  exact ev_call (M' := m_Mo_isSlot) (As := [.ref a0, .int x1]) (st := (.ref a0 :: st)) d_Mo_length_3 i_Mo_isSlot (fun h => absurd h (by decide +kernel)) cw_Mo_153 rfl rfl ⟨hb.1, 11, _, _, hb.2, rfl, rfl⟩ rfl (Nat.le_of_ble_eq_true rfl) h8 k
theorem t_Mo_length_6 {d : Nat} {st : List Value} {o0 : Option Value} {o1 : Option Value} {y0 : Int32} {w : qk_W} {nc ns : Nat} {Q : Option Value ⊕ Nat → qk_W → Nat → Nat → Prop}   (kt : y0 = 0 → Ev d m_Mo_length 13 [o0, o1] st w nc ns Q) (kf : ¬ (y0 = 0) → Ev d m_Mo_length 9 [o0, o1] st w nc ns Q) : Ev d m_Mo_length 6 [o0, o1] (.int y0 :: st) w nc ns Q := by
  exact ev_if_eq 13 d_Mo_length_6 (by decide) kt kf
theorem t_Mo_length_9 {d : Nat} {st : List Value} {o0 : Option Value} {o1 : Option Value} {b0 : Nat} {fs2 : List Value} {w : qk_W} {nc ns : Nat} {Q : Option Value ⊕ Nat → qk_W → Nat → Nat → Prop}  (hw1 : wo w b0 11 fs2) (hk : 0 < fs2.length) (k : Ev d m_Mo_length 17 [o0, o1] st (qk_set w b0 (.inr (11, fs2.set 0 (.int 0)))) nc ns Q) : Ev d m_Mo_length 9 [o0, o1] (.ref b0 :: st) w nc ns Q := by
  refine ev_iconst 0 d_Mo_length_9 (by decide) ?_
  refine ev_goto 14 d_Mo_length_10 (by decide) ?_
  exact ev_putf d_Mo_length_14 fl_Mo_69 rfl hw1.1 hw1.2 hk (qk_fitI _) k
theorem t_Mo_length_13 {d : Nat} {st : List Value} {o0 : Option Value} {o1 : Option Value} {b0 : Nat} {fs2 : List Value} {w : qk_W} {nc ns : Nat} {Q : Option Value ⊕ Nat → qk_W → Nat → Nat → Prop}  (hw1 : wo w b0 11 fs2) (hk : 0 < fs2.length) (k : Ev d m_Mo_length 17 [o0, o1] st (qk_set w b0 (.inr (11, fs2.set 0 (.int 1)))) nc ns Q) : Ev d m_Mo_length 13 [o0, o1] (.ref b0 :: st) w nc ns Q := by
  refine ev_iconst 1 d_Mo_length_13 (by decide) ?_
  exact ev_putf d_Mo_length_14 fl_Mo_69 rfl hw1.1 hw1.2 hk (qk_fitI _) k
theorem t_Mo_length_17 {d : Nat} {st : List Value} {a0 : Nat} {o1 : Option Value} {fs2 : List Value} {n4 : Int32} {w : qk_W} {nc ns : Nat} {Q : Option Value ⊕ Nat → qk_W → Nat → Nat → Prop}  (hw1 : wo w a0 11 fs2) (hf3 : fs2[0]? = some (.int n4)) (kt : n4 ≤ 0 → Ev d m_Mo_length 28 [some (.ref a0), o1] st w nc ns Q) (kf : ¬ (n4 ≤ 0) → Ev d m_Mo_length 24 [some (.ref a0), o1] st w nc ns Q) : Ev d m_Mo_length 17 [some (.ref a0), o1] st w nc ns Q := by
  refine ev_aload_n d_Mo_length_17 rfl rfl ?_
  refine ev_getf d_Mo_length_18 fl_Mo_69 hw1.1 hw1.2 hf3 ?_
  exact ev_if_le 28 d_Mo_length_21 (by decide) kt kf
theorem t_Mo_length_24 {d : Nat} {o0 : Option Value} {o1 : Option Value} {w : qk_W} {nc ns : Nat} {Q : Option Value ⊕ Nat → qk_W → Nat → Nat → Prop}   (hq : Q (.inl (some (.int 0))) w nc ns) : Ev d m_Mo_length 24 [o0, o1] [] w nc ns Q := by
  refine ev_iconst 0 d_Mo_length_24 (by decide) ?_
  refine ev_goto 37 d_Mo_length_25 (by decide) ?_
  exact ev_iret d_Mo_length_37 rfl rfl hq
theorem t_Mo_length_28 {d : Nat} {a0 : Nat} {x1 : Int32} {fs2 : List Value} {c4 : Nat} {n6 : Nat} {f7 : Nat → Int32} {w : qk_W} {nc ns : Nat} {Q : Option Value ⊕ Nat → qk_W → Nat → Nat → Prop}  (hw1 : wo w a0 11 fs2) (hf3 : fs2[15]? = some (.ref c4)) (ha5 : wi w c4 n6 f7) (hi8 : vp_in (qi_rem x1 64) n6) (hq : Q (.inl (some (.int (f7 (qi_rem x1 64).toNatClampNeg)))) w nc ns) : Ev d m_Mo_length 28 [some (.ref a0), some (.int x1)] [] w nc ns Q := by
  refine ev_aload_n d_Mo_length_28 rfl rfl ?_
  refine ev_getf d_Mo_length_29 fl_Mo_51 hw1.1 hw1.2 hf3 ?_
  refine ev_iload_n d_Mo_length_32 rfl ?_
  refine ev_bipush 64 d_Mo_length_33 (by decide) ?_
  refine ev_irem d_Mo_length_35 (by decide) ?_
  refine ev_iald d_Mo_length_36 ha5 hi8 ?_
  exact ev_iret d_Mo_length_37 rfl rfl hq
/-! Mo_air -/
theorem cw_Mo_156 : qk_cw "QuakeLinkModel" m_Mo_isByte.1 (.invokevirtual 156) := ⟨(lw_i5 _ (List.mem_of_getElem? (i := 150) rfl)), (lw_i5 _ (List.mem_of_getElem? (i := 152) rfl)), (lw_i0 _ (List.mem_of_getElem? (i := 37) rfl))⟩
theorem d_Mo_air_0 : decode m_Mo_air.2.1 0 = .ok (.aload_n 0, 1) := by decide +kernel
theorem d_Mo_air_1 : decode m_Mo_air.2.1 1 = .ok (.aload_n 0, 1) := by decide +kernel
theorem d_Mo_air_2 : decode m_Mo_air.2.1 2 = .ok (.iload_n 1, 1) := by decide +kernel
theorem d_Mo_air_3 : decode m_Mo_air.2.1 3 = .ok (.iload_n 2, 1) := by decide +kernel
theorem d_Mo_air_4 : decode m_Mo_air.2.1 4 = .ok (.invokevirtual 156, 3) := by decide +kernel
theorem d_Mo_air_7 : decode m_Mo_air.2.1 7 = .ok (.ifCond .eq 7, 3) := by decide +kernel
theorem d_Mo_air_10 : decode m_Mo_air.2.1 10 = .ok (.iconst 0, 1) := by decide +kernel
theorem d_Mo_air_11 : decode m_Mo_air.2.1 11 = .ok (.goto 4, 3) := by decide +kernel
theorem d_Mo_air_14 : decode m_Mo_air.2.1 14 = .ok (.iconst 1, 1) := by decide +kernel
theorem d_Mo_air_15 : decode m_Mo_air.2.1 15 = .ok (.putfield 69, 3) := by decide +kernel
theorem d_Mo_air_18 : decode m_Mo_air.2.1 18 = .ok (.aload_n 0, 1) := by decide +kernel
theorem d_Mo_air_19 : decode m_Mo_air.2.1 19 = .ok (.getfield 69, 3) := by decide +kernel
theorem d_Mo_air_22 : decode m_Mo_air.2.1 22 = .ok (.ifCond .le 7, 3) := by decide +kernel
theorem d_Mo_air_25 : decode m_Mo_air.2.1 25 = .ok (.iconst 0, 1) := by decide +kernel
theorem d_Mo_air_26 : decode m_Mo_air.2.1 26 = .ok (.goto 22, 3) := by decide +kernel
theorem d_Mo_air_29 : decode m_Mo_air.2.1 29 = .ok (.aload_n 0, 1) := by decide +kernel
theorem d_Mo_air_30 : decode m_Mo_air.2.1 30 = .ok (.getfield 47, 3) := by decide +kernel
theorem d_Mo_air_33 : decode m_Mo_air.2.1 33 = .ok (.sipush 512, 3) := by decide +kernel
theorem d_Mo_air_36 : decode m_Mo_air.2.1 36 = .ok (.iload_n 1, 1) := by decide +kernel
theorem d_Mo_air_37 : decode m_Mo_air.2.1 37 = .ok (.bipush 64, 2) := by decide +kernel
theorem d_Mo_air_39 : decode m_Mo_air.2.1 39 = .ok (.irem, 1) := by decide +kernel
theorem d_Mo_air_40 : decode m_Mo_air.2.1 40 = .ok (.imul, 1) := by decide +kernel
theorem d_Mo_air_41 : decode m_Mo_air.2.1 41 = .ok (.iload_n 2, 1) := by decide +kernel
theorem d_Mo_air_42 : decode m_Mo_air.2.1 42 = .ok (.iadd, 1) := by decide +kernel
theorem d_Mo_air_43 : decode m_Mo_air.2.1 43 = .ok (.baload, 1) := by decide +kernel
theorem d_Mo_air_44 : decode m_Mo_air.2.1 44 = .ok (.sipush 255, 3) := by decide +kernel
theorem d_Mo_air_47 : decode m_Mo_air.2.1 47 = .ok (.iand, 1) := by decide +kernel
theorem d_Mo_air_48 : decode m_Mo_air.2.1 48 = .ok (.ireturn, 1) := by decide +kernel
theorem t_Mo_air_0 {d : Nat} {st : List Value} {a0 : Nat} {x1 : Int32} {x2 : Int32} {fsb : List Value} {w : qk_W} {nc ns : Nat} {Q : Option Value ⊕ Nat → qk_W → Nat → Nat → Prop}  (hb : wo w a0 11 fsb) (h8 : ((.ref a0 :: st).map fun v => Value.category v).sum ≤ 8) (k : Ev d m_Mo_isByte 0 [some (.ref a0), some (.int x1), some (.int x2)] [] w nc ns (fun r w1 nc1 ns1 => match r with | .inl v => Ev (d + 1) m_Mo_air 7 [some (.ref a0), some (.int x1), some (.int x2)] (v.toList ++ (.ref a0 :: st)) w1 nc1 ns1 Q | .inr x => Q (.inr x) w1 nc1 ns1)) : Ev (d + 1) m_Mo_air 0 [some (.ref a0), some (.int x1), some (.int x2)] st w nc ns Q := by
  refine ev_aload_n d_Mo_air_0 rfl rfl ?_
  refine ev_aload_n d_Mo_air_1 rfl rfl ?_
  refine ev_iload_n d_Mo_air_2 rfl ?_
  refine ev_iload_n d_Mo_air_3 rfl ?_
  exact ev_call (M' := m_Mo_isByte) (As := [.ref a0, .int x1, .int x2]) (st := (.ref a0 :: st)) d_Mo_air_4 i_Mo_isByte (fun h => absurd h (by decide +kernel)) cw_Mo_156 rfl rfl ⟨hb.1, 11, _, _, hb.2, rfl, rfl⟩ rfl (Nat.le_of_ble_eq_true rfl) h8 k
theorem t_Mo_air_7 {d : Nat} {st : List Value} {o0 : Option Value} {o1 : Option Value} {o2 : Option Value} {y0 : Int32} {w : qk_W} {nc ns : Nat} {Q : Option Value ⊕ Nat → qk_W → Nat → Nat → Prop}   (kt : y0 = 0 → Ev d m_Mo_air 14 [o0, o1, o2] st w nc ns Q) (kf : ¬ (y0 = 0) → Ev d m_Mo_air 10 [o0, o1, o2] st w nc ns Q) : Ev d m_Mo_air 7 [o0, o1, o2] (.int y0 :: st) w nc ns Q := by
  exact ev_if_eq 14 d_Mo_air_7 (by decide) kt kf
theorem t_Mo_air_10 {d : Nat} {st : List Value} {o0 : Option Value} {o1 : Option Value} {o2 : Option Value} {b0 : Nat} {fs2 : List Value} {w : qk_W} {nc ns : Nat} {Q : Option Value ⊕ Nat → qk_W → Nat → Nat → Prop}  (hw1 : wo w b0 11 fs2) (hk : 0 < fs2.length) (k : Ev d m_Mo_air 18 [o0, o1, o2] st (qk_set w b0 (.inr (11, fs2.set 0 (.int 0)))) nc ns Q) : Ev d m_Mo_air 10 [o0, o1, o2] (.ref b0 :: st) w nc ns Q := by
  refine ev_iconst 0 d_Mo_air_10 (by decide) ?_
  refine ev_goto 15 d_Mo_air_11 (by decide) ?_
  exact ev_putf d_Mo_air_15 fl_Mo_69 rfl hw1.1 hw1.2 hk (qk_fitI _) k
theorem t_Mo_air_14 {d : Nat} {st : List Value} {o0 : Option Value} {o1 : Option Value} {o2 : Option Value} {b0 : Nat} {fs2 : List Value} {w : qk_W} {nc ns : Nat} {Q : Option Value ⊕ Nat → qk_W → Nat → Nat → Prop}  (hw1 : wo w b0 11 fs2) (hk : 0 < fs2.length) (k : Ev d m_Mo_air 18 [o0, o1, o2] st (qk_set w b0 (.inr (11, fs2.set 0 (.int 1)))) nc ns Q) : Ev d m_Mo_air 14 [o0, o1, o2] (.ref b0 :: st) w nc ns Q := by
  refine ev_iconst 1 d_Mo_air_14 (by decide) ?_
  exact ev_putf d_Mo_air_15 fl_Mo_69 rfl hw1.1 hw1.2 hk (qk_fitI _) k
theorem t_Mo_air_18 {d : Nat} {st : List Value} {a0 : Nat} {o1 : Option Value} {o2 : Option Value} {fs2 : List Value} {n4 : Int32} {w : qk_W} {nc ns : Nat} {Q : Option Value ⊕ Nat → qk_W → Nat → Nat → Prop}  (hw1 : wo w a0 11 fs2) (hf3 : fs2[0]? = some (.int n4)) (kt : n4 ≤ 0 → Ev d m_Mo_air 29 [some (.ref a0), o1, o2] st w nc ns Q) (kf : ¬ (n4 ≤ 0) → Ev d m_Mo_air 25 [some (.ref a0), o1, o2] st w nc ns Q) : Ev d m_Mo_air 18 [some (.ref a0), o1, o2] st w nc ns Q := by
  refine ev_aload_n d_Mo_air_18 rfl rfl ?_
  refine ev_getf d_Mo_air_19 fl_Mo_69 hw1.1 hw1.2 hf3 ?_
  exact ev_if_le 29 d_Mo_air_22 (by decide) kt kf
theorem t_Mo_air_25 {d : Nat} {o0 : Option Value} {o1 : Option Value} {o2 : Option Value} {w : qk_W} {nc ns : Nat} {Q : Option Value ⊕ Nat → qk_W → Nat → Nat → Prop}   (hq : Q (.inl (some (.int 0))) w nc ns) : Ev d m_Mo_air 25 [o0, o1, o2] [] w nc ns Q := by
  refine ev_iconst 0 d_Mo_air_25 (by decide) ?_
  refine ev_goto 48 d_Mo_air_26 (by decide) ?_
  exact ev_iret d_Mo_air_48 rfl rfl hq
theorem t_Mo_air_29 {d : Nat} {a0 : Nat} {x1 : Int32} {x2 : Int32} {fs2 : List Value} {c4 : Nat} {n6 : Nat} {f7 : Nat → Int32} {w : qk_W} {nc ns : Nat} {Q : Option Value ⊕ Nat → qk_W → Nat → Nat → Prop}  (hw1 : wo w a0 11 fs2) (hf3 : fs2[14]? = some (.ref c4)) (ha5 : wb w c4 n6 f7) (hi8 : vp_in ((512 * (qi_rem x1 64)) + x2) n6) (hq : Q (.inl (some (.int ((f7 ((512 * (qi_rem x1 64)) + x2).toNatClampNeg) &&& 255)))) w nc ns) : Ev d m_Mo_air 29 [some (.ref a0), some (.int x1), some (.int x2)] [] w nc ns Q := by
  refine ev_aload_n d_Mo_air_29 rfl rfl ?_
  refine ev_getf d_Mo_air_30 fl_Mo_47 hw1.1 hw1.2 hf3 ?_
  refine ev_sipush 512 d_Mo_air_33 (by decide) ?_
  refine ev_iload_n d_Mo_air_36 rfl ?_
  refine ev_bipush 64 d_Mo_air_37 (by decide) ?_
  refine ev_irem d_Mo_air_39 (by decide) ?_
  refine ev_imul d_Mo_air_40 ?_
  refine ev_iload_n d_Mo_air_41 rfl ?_
  refine ev_iadd d_Mo_air_42 ?_
  refine ev_bald d_Mo_air_43 ha5.1 ha5.2 hi8 ?_
  refine ev_sipush 255 d_Mo_air_44 (by decide) ?_
  refine ev_iand d_Mo_air_47 ?_
  exact ev_iret d_Mo_air_48 rfl rfl hq
/-! Mo_isByte -/
theorem d_Mo_isByte_0 : decode m_Mo_isByte.2.1 0 = .ok (.aload_n 0, 1) := by decide +kernel
theorem d_Mo_isByte_1 : decode m_Mo_isByte.2.1 1 = .ok (.iload_n 1, 1) := by decide +kernel
theorem d_Mo_isByte_2 : decode m_Mo_isByte.2.1 2 = .ok (.invokevirtual 153, 3) := by decide +kernel
theorem d_Mo_isByte_5 : decode m_Mo_isByte.2.1 5 = .ok (.ifCond .eq 24, 3) := by decide +kernel
theorem d_Mo_isByte_8 : decode m_Mo_isByte.2.1 8 = .ok (.iload_n 2, 1) := by decide +kernel
theorem d_Mo_isByte_9 : decode m_Mo_isByte.2.1 9 = .ok (.ifCond .lt 20, 3) := by decide +kernel
theorem d_Mo_isByte_12 : decode m_Mo_isByte.2.1 12 = .ok (.iload_n 2, 1) := by decide +kernel
theorem d_Mo_isByte_13 : decode m_Mo_isByte.2.1 13 = .ok (.aload_n 0, 1) := by decide +kernel
theorem d_Mo_isByte_14 : decode m_Mo_isByte.2.1 14 = .ok (.getfield 51, 3) := by decide +kernel
theorem d_Mo_isByte_17 : decode m_Mo_isByte.2.1 17 = .ok (.iload_n 1, 1) := by decide +kernel
theorem d_Mo_isByte_18 : decode m_Mo_isByte.2.1 18 = .ok (.bipush 64, 2) := by decide +kernel
theorem d_Mo_isByte_20 : decode m_Mo_isByte.2.1 20 = .ok (.irem, 1) := by decide +kernel
theorem d_Mo_isByte_21 : decode m_Mo_isByte.2.1 21 = .ok (.iaload, 1) := by decide +kernel
theorem d_Mo_isByte_22 : decode m_Mo_isByte.2.1 22 = .ok (.if_icmp .ge 7, 3) := by decide +kernel
theorem d_Mo_isByte_25 : decode m_Mo_isByte.2.1 25 = .ok (.iconst 1, 1) := by decide +kernel
theorem d_Mo_isByte_26 : decode m_Mo_isByte.2.1 26 = .ok (.goto 4, 3) := by decide +kernel
theorem d_Mo_isByte_29 : decode m_Mo_isByte.2.1 29 = .ok (.iconst 0, 1) := by decide +kernel
theorem d_Mo_isByte_30 : decode m_Mo_isByte.2.1 30 = .ok (.ireturn, 1) := by decide +kernel
theorem t_Mo_isByte_0 {d : Nat} {st : List Value} {a0 : Nat} {x1 : Int32} {o2 : Option Value} {fsb : List Value} {w : qk_W} {nc ns : Nat} {Q : Option Value ⊕ Nat → qk_W → Nat → Nat → Prop}  (hb : wo w a0 11 fsb) (h8 : (st.map fun v => Value.category v).sum ≤ 8) (k : Ev d m_Mo_isSlot 0 [some (.ref a0), some (.int x1)] [] w nc ns (fun r w1 nc1 ns1 => match r with | .inl v => Ev (d + 1) m_Mo_isByte 5 [some (.ref a0), some (.int x1), o2] (v.toList ++ st) w1 nc1 ns1 Q | .inr x => Q (.inr x) w1 nc1 ns1)) : Ev (d + 1) m_Mo_isByte 0 [some (.ref a0), some (.int x1), o2] st w nc ns Q := by
  refine ev_aload_n d_Mo_isByte_0 rfl rfl ?_
  refine ev_iload_n d_Mo_isByte_1 rfl ?_
  exact ev_call (M' := m_Mo_isSlot) (As := [.ref a0, .int x1]) (st := st) d_Mo_isByte_2 i_Mo_isSlot (fun h => absurd h (by decide +kernel)) cw_Mo_153 rfl rfl ⟨hb.1, 11, _, _, hb.2, rfl, rfl⟩ rfl (Nat.le_of_ble_eq_true rfl) h8 k
theorem t_Mo_isByte_5 {d : Nat} {st : List Value} {o0 : Option Value} {o1 : Option Value} {o2 : Option Value} {y0 : Int32} {w : qk_W} {nc ns : Nat} {Q : Option Value ⊕ Nat → qk_W → Nat → Nat → Prop}   (kt : y0 = 0 → Ev d m_Mo_isByte 29 [o0, o1, o2] st w nc ns Q) (kf : ¬ (y0 = 0) → Ev d m_Mo_isByte 8 [o0, o1, o2] st w nc ns Q) : Ev d m_Mo_isByte 5 [o0, o1, o2] (.int y0 :: st) w nc ns Q := by
  exact ev_if_eq 29 d_Mo_isByte_5 (by decide) kt kf
theorem t_Mo_isByte_8 {d : Nat} {st : List Value} {o0 : Option Value} {o1 : Option Value} {x2 : Int32} {w : qk_W} {nc ns : Nat} {Q : Option Value ⊕ Nat → qk_W → Nat → Nat → Prop}   (kt : x2 < 0 → Ev d m_Mo_isByte 29 [o0, o1, some (.int x2)] st w nc ns Q) (kf : ¬ (x2 < 0) → Ev d m_Mo_isByte 12 [o0, o1, some (.int x2)] st w nc ns Q) : Ev d m_Mo_isByte 8 [o0, o1, some (.int x2)] st w nc ns Q := by
  refine ev_iload_n d_Mo_isByte_8 rfl ?_
  exact ev_if_lt 29 d_Mo_isByte_9 (by decide) kt kf
theorem t_Mo_isByte_12 {d : Nat} {st : List Value} {a0 : Nat} {x1 : Int32} {x2 : Int32} {fs2 : List Value} {c4 : Nat} {n6 : Nat} {f7 : Nat → Int32} {w : qk_W} {nc ns : Nat} {Q : Option Value ⊕ Nat → qk_W → Nat → Nat → Prop}  (hw1 : wo w a0 11 fs2) (hf3 : fs2[15]? = some (.ref c4)) (ha5 : wi w c4 n6 f7) (hi8 : vp_in (qi_rem x1 64) n6) (kt : (f7 (qi_rem x1 64).toNatClampNeg) ≤ x2 → Ev d m_Mo_isByte 29 [some (.ref a0), some (.int x1), some (.int x2)] st w nc ns Q) (kf : ¬ ((f7 (qi_rem x1 64).toNatClampNeg) ≤ x2) → Ev d m_Mo_isByte 25 [some (.ref a0), some (.int x1), some (.int x2)] st w nc ns Q) : Ev d m_Mo_isByte 12 [some (.ref a0), some (.int x1), some (.int x2)] st w nc ns Q := by
  refine ev_iload_n d_Mo_isByte_12 rfl ?_
  refine ev_aload_n d_Mo_isByte_13 rfl rfl ?_
  refine ev_getf d_Mo_isByte_14 fl_Mo_51 hw1.1 hw1.2 hf3 ?_
  refine ev_iload_n d_Mo_isByte_17 rfl ?_
  refine ev_bipush 64 d_Mo_isByte_18 (by decide) ?_
  refine ev_irem d_Mo_isByte_20 (by decide) ?_
  refine ev_iald d_Mo_isByte_21 ha5 hi8 ?_
  exact ev_icmp_ge 29 d_Mo_isByte_22 (by decide) kt kf
theorem t_Mo_isByte_25 {d : Nat} {o0 : Option Value} {o1 : Option Value} {o2 : Option Value} {w : qk_W} {nc ns : Nat} {Q : Option Value ⊕ Nat → qk_W → Nat → Nat → Prop}   (hq : Q (.inl (some (.int 1))) w nc ns) : Ev d m_Mo_isByte 25 [o0, o1, o2] [] w nc ns Q := by
  refine ev_iconst 1 d_Mo_isByte_25 (by decide) ?_
  refine ev_goto 30 d_Mo_isByte_26 (by decide) ?_
  exact ev_iret d_Mo_isByte_30 rfl rfl hq
theorem t_Mo_isByte_29 {d : Nat} {o0 : Option Value} {o1 : Option Value} {o2 : Option Value} {w : qk_W} {nc ns : Nat} {Q : Option Value ⊕ Nat → qk_W → Nat → Nat → Prop}   (hq : Q (.inl (some (.int 0))) w nc ns) : Ev d m_Mo_isByte 29 [o0, o1, o2] [] w nc ns Q := by
  refine ev_iconst 0 d_Mo_isByte_29 (by decide) ?_
  exact ev_iret d_Mo_isByte_30 rfl rfl hq
/-! Mo_spoil -/
theorem d_Mo_spoil_0 : decode m_Mo_spoil.2.1 0 = .ok (.aload_n 0, 1) := by decide +kernel
theorem d_Mo_spoil_1 : decode m_Mo_spoil.2.1 1 = .ok (.aload_n 0, 1) := by decide +kernel
theorem d_Mo_spoil_2 : decode m_Mo_spoil.2.1 2 = .ok (.iload_n 1, 1) := by decide +kernel
theorem d_Mo_spoil_3 : decode m_Mo_spoil.2.1 3 = .ok (.iload_n 2, 1) := by decide +kernel
theorem d_Mo_spoil_4 : decode m_Mo_spoil.2.1 4 = .ok (.invokevirtual 156, 3) := by decide +kernel
theorem d_Mo_spoil_7 : decode m_Mo_spoil.2.1 7 = .ok (.ifCond .eq 7, 3) := by decide +kernel
theorem d_Mo_spoil_10 : decode m_Mo_spoil.2.1 10 = .ok (.iconst 0, 1) := by decide +kernel
theorem d_Mo_spoil_11 : decode m_Mo_spoil.2.1 11 = .ok (.goto 4, 3) := by decide +kernel
theorem d_Mo_spoil_14 : decode m_Mo_spoil.2.1 14 = .ok (.iconst 1, 1) := by decide +kernel
theorem d_Mo_spoil_15 : decode m_Mo_spoil.2.1 15 = .ok (.putfield 69, 3) := by decide +kernel
theorem d_Mo_spoil_18 : decode m_Mo_spoil.2.1 18 = .ok (.aload_n 0, 1) := by decide +kernel
theorem d_Mo_spoil_19 : decode m_Mo_spoil.2.1 19 = .ok (.getfield 69, 3) := by decide +kernel
theorem d_Mo_spoil_22 : decode m_Mo_spoil.2.1 22 = .ok (.ifCond .ne 36, 3) := by decide +kernel
theorem d_Mo_spoil_25 : decode m_Mo_spoil.2.1 25 = .ok (.aload_n 0, 1) := by decide +kernel
theorem d_Mo_spoil_26 : decode m_Mo_spoil.2.1 26 = .ok (.getfield 47, 3) := by decide +kernel
theorem d_Mo_spoil_29 : decode m_Mo_spoil.2.1 29 = .ok (.sipush 512, 3) := by decide +kernel
theorem d_Mo_spoil_32 : decode m_Mo_spoil.2.1 32 = .ok (.iload_n 1, 1) := by decide +kernel
theorem d_Mo_spoil_33 : decode m_Mo_spoil.2.1 33 = .ok (.bipush 64, 2) := by decide +kernel
theorem d_Mo_spoil_35 : decode m_Mo_spoil.2.1 35 = .ok (.irem, 1) := by decide +kernel
theorem d_Mo_spoil_36 : decode m_Mo_spoil.2.1 36 = .ok (.imul, 1) := by decide +kernel
theorem d_Mo_spoil_37 : decode m_Mo_spoil.2.1 37 = .ok (.iload_n 2, 1) := by decide +kernel
theorem d_Mo_spoil_38 : decode m_Mo_spoil.2.1 38 = .ok (.iadd, 1) := by decide +kernel
theorem d_Mo_spoil_39 : decode m_Mo_spoil.2.1 39 = .ok (.aload_n 0, 1) := by decide +kernel
theorem d_Mo_spoil_40 : decode m_Mo_spoil.2.1 40 = .ok (.getfield 47, 3) := by decide +kernel
theorem d_Mo_spoil_43 : decode m_Mo_spoil.2.1 43 = .ok (.sipush 512, 3) := by decide +kernel
theorem d_Mo_spoil_46 : decode m_Mo_spoil.2.1 46 = .ok (.iload_n 1, 1) := by decide +kernel
theorem d_Mo_spoil_47 : decode m_Mo_spoil.2.1 47 = .ok (.bipush 64, 2) := by decide +kernel
theorem d_Mo_spoil_49 : decode m_Mo_spoil.2.1 49 = .ok (.irem, 1) := by decide +kernel
theorem d_Mo_spoil_50 : decode m_Mo_spoil.2.1 50 = .ok (.imul, 1) := by decide +kernel
theorem d_Mo_spoil_51 : decode m_Mo_spoil.2.1 51 = .ok (.iload_n 2, 1) := by decide +kernel
theorem d_Mo_spoil_52 : decode m_Mo_spoil.2.1 52 = .ok (.iadd, 1) := by decide +kernel
theorem d_Mo_spoil_53 : decode m_Mo_spoil.2.1 53 = .ok (.baload, 1) := by decide +kernel
theorem d_Mo_spoil_54 : decode m_Mo_spoil.2.1 54 = .ok (.iload_n 3, 1) := by decide +kernel
theorem d_Mo_spoil_55 : decode m_Mo_spoil.2.1 55 = .ok (.ixor, 1) := by decide +kernel
theorem d_Mo_spoil_56 : decode m_Mo_spoil.2.1 56 = .ok (.i2b, 1) := by decide +kernel
theorem d_Mo_spoil_57 : decode m_Mo_spoil.2.1 57 = .ok (.bastore, 1) := by decide +kernel
theorem d_Mo_spoil_58 : decode m_Mo_spoil.2.1 58 = .ok (.return_, 1) := by decide +kernel
theorem t_Mo_spoil_0 {d : Nat} {st : List Value} {a0 : Nat} {x1 : Int32} {x2 : Int32} {o3 : Option Value} {fsb : List Value} {w : qk_W} {nc ns : Nat} {Q : Option Value ⊕ Nat → qk_W → Nat → Nat → Prop}  (hb : wo w a0 11 fsb) (h8 : ((.ref a0 :: st).map fun v => Value.category v).sum ≤ 8) (k : Ev d m_Mo_isByte 0 [some (.ref a0), some (.int x1), some (.int x2)] [] w nc ns (fun r w1 nc1 ns1 => match r with | .inl v => Ev (d + 1) m_Mo_spoil 7 [some (.ref a0), some (.int x1), some (.int x2), o3] (v.toList ++ (.ref a0 :: st)) w1 nc1 ns1 Q | .inr x => Q (.inr x) w1 nc1 ns1)) : Ev (d + 1) m_Mo_spoil 0 [some (.ref a0), some (.int x1), some (.int x2), o3] st w nc ns Q := by
  refine ev_aload_n d_Mo_spoil_0 rfl rfl ?_
  refine ev_aload_n d_Mo_spoil_1 rfl rfl ?_
  refine ev_iload_n d_Mo_spoil_2 rfl ?_
  refine ev_iload_n d_Mo_spoil_3 rfl ?_
  exact ev_call (M' := m_Mo_isByte) (As := [.ref a0, .int x1, .int x2]) (st := (.ref a0 :: st)) d_Mo_spoil_4 i_Mo_isByte (fun h => absurd h (by decide +kernel)) cw_Mo_156 rfl rfl ⟨hb.1, 11, _, _, hb.2, rfl, rfl⟩ rfl (Nat.le_of_ble_eq_true rfl) h8 k
theorem t_Mo_spoil_7 {d : Nat} {st : List Value} {o0 : Option Value} {o1 : Option Value} {o2 : Option Value} {o3 : Option Value} {y0 : Int32} {w : qk_W} {nc ns : Nat} {Q : Option Value ⊕ Nat → qk_W → Nat → Nat → Prop}   (kt : y0 = 0 → Ev d m_Mo_spoil 14 [o0, o1, o2, o3] st w nc ns Q) (kf : ¬ (y0 = 0) → Ev d m_Mo_spoil 10 [o0, o1, o2, o3] st w nc ns Q) : Ev d m_Mo_spoil 7 [o0, o1, o2, o3] (.int y0 :: st) w nc ns Q := by
  exact ev_if_eq 14 d_Mo_spoil_7 (by decide) kt kf
theorem t_Mo_spoil_10 {d : Nat} {st : List Value} {o0 : Option Value} {o1 : Option Value} {o2 : Option Value} {o3 : Option Value} {b0 : Nat} {fs2 : List Value} {w : qk_W} {nc ns : Nat} {Q : Option Value ⊕ Nat → qk_W → Nat → Nat → Prop}  (hw1 : wo w b0 11 fs2) (hk : 0 < fs2.length) (k : Ev d m_Mo_spoil 18 [o0, o1, o2, o3] st (qk_set w b0 (.inr (11, fs2.set 0 (.int 0)))) nc ns Q) : Ev d m_Mo_spoil 10 [o0, o1, o2, o3] (.ref b0 :: st) w nc ns Q := by
  refine ev_iconst 0 d_Mo_spoil_10 (by decide) ?_
  refine ev_goto 15 d_Mo_spoil_11 (by decide) ?_
  exact ev_putf d_Mo_spoil_15 fl_Mo_69 rfl hw1.1 hw1.2 hk (qk_fitI _) k
theorem t_Mo_spoil_14 {d : Nat} {st : List Value} {o0 : Option Value} {o1 : Option Value} {o2 : Option Value} {o3 : Option Value} {b0 : Nat} {fs2 : List Value} {w : qk_W} {nc ns : Nat} {Q : Option Value ⊕ Nat → qk_W → Nat → Nat → Prop}  (hw1 : wo w b0 11 fs2) (hk : 0 < fs2.length) (k : Ev d m_Mo_spoil 18 [o0, o1, o2, o3] st (qk_set w b0 (.inr (11, fs2.set 0 (.int 1)))) nc ns Q) : Ev d m_Mo_spoil 14 [o0, o1, o2, o3] (.ref b0 :: st) w nc ns Q := by
  refine ev_iconst 1 d_Mo_spoil_14 (by decide) ?_
  exact ev_putf d_Mo_spoil_15 fl_Mo_69 rfl hw1.1 hw1.2 hk (qk_fitI _) k
theorem t_Mo_spoil_18 {d : Nat} {st : List Value} {a0 : Nat} {o1 : Option Value} {o2 : Option Value} {o3 : Option Value} {fs2 : List Value} {n4 : Int32} {w : qk_W} {nc ns : Nat} {Q : Option Value ⊕ Nat → qk_W → Nat → Nat → Prop}  (hw1 : wo w a0 11 fs2) (hf3 : fs2[0]? = some (.int n4)) (kt : ¬ n4 = 0 → Ev d m_Mo_spoil 58 [some (.ref a0), o1, o2, o3] st w nc ns Q) (kf : n4 = 0 → Ev d m_Mo_spoil 25 [some (.ref a0), o1, o2, o3] st w nc ns Q) : Ev d m_Mo_spoil 18 [some (.ref a0), o1, o2, o3] st w nc ns Q := by
  refine ev_aload_n d_Mo_spoil_18 rfl rfl ?_
  refine ev_getf d_Mo_spoil_19 fl_Mo_69 hw1.1 hw1.2 hf3 ?_
  exact ev_if_ne 58 d_Mo_spoil_22 (by decide) kt kf
theorem t_Mo_spoil_25 {d : Nat} {st : List Value} {a0 : Nat} {x1 : Int32} {x2 : Int32} {x3 : Int32} {fs2 : List Value} {c4 : Nat} {n9 : Nat} {f10 : Nat → Int32} {w : qk_W} {nc ns : Nat} {Q : Option Value ⊕ Nat → qk_W → Nat → Nat → Prop}  (hw1 : wo w a0 11 fs2) (hf3 : fs2[14]? = some (.ref c4)) (ha8 : wb w c4 n9 f10) (hi11 : vp_in ((512 * (qi_rem x1 64)) + x2) n9) (k : Ev d m_Mo_spoil 58 [some (.ref a0), some (.int x1), some (.int x2), some (.int x3)] st (qk_set w c4 (.inl (.byte, n9, .inl (upd f10 ((512 * (qi_rem x1 64)) + x2).toNatClampNeg (Int32.toInt8 ((Int32.toInt8 ((f10 ((512 * (qi_rem x1 64)) + x2).toNatClampNeg) ^^^ x3)).toInt32)).toInt32)))) nc ns Q) : Ev d m_Mo_spoil 25 [some (.ref a0), some (.int x1), some (.int x2), some (.int x3)] st w nc ns Q := by
  refine ev_aload_n d_Mo_spoil_25 rfl rfl ?_
  refine ev_getf d_Mo_spoil_26 fl_Mo_47 hw1.1 hw1.2 hf3 ?_
  refine ev_sipush 512 d_Mo_spoil_29 (by decide) ?_
  refine ev_iload_n d_Mo_spoil_32 rfl ?_
  refine ev_bipush 64 d_Mo_spoil_33 (by decide) ?_
  refine ev_irem d_Mo_spoil_35 (by decide) ?_
  refine ev_imul d_Mo_spoil_36 ?_
  refine ev_iload_n d_Mo_spoil_37 rfl ?_
  refine ev_iadd d_Mo_spoil_38 ?_
  refine ev_aload_n d_Mo_spoil_39 rfl rfl ?_
  refine ev_getf d_Mo_spoil_40 fl_Mo_47 hw1.1 hw1.2 hf3 ?_
  refine ev_sipush 512 d_Mo_spoil_43 (by decide) ?_
  refine ev_iload_n d_Mo_spoil_46 rfl ?_
  refine ev_bipush 64 d_Mo_spoil_47 (by decide) ?_
  refine ev_irem d_Mo_spoil_49 (by decide) ?_
  refine ev_imul d_Mo_spoil_50 ?_
  refine ev_iload_n d_Mo_spoil_51 rfl ?_
  refine ev_iadd d_Mo_spoil_52 ?_
  refine ev_bald d_Mo_spoil_53 ha8.1 ha8.2 hi11 ?_
  refine ev_iload_n d_Mo_spoil_54 rfl ?_
  refine ev_ixor d_Mo_spoil_55 ?_
  refine ev_i2b d_Mo_spoil_56 ?_
  exact ev_bast d_Mo_spoil_57 ha8.1 ha8.2 hi11 k
theorem t_Mo_spoil_58 {d : Nat} {o0 : Option Value} {o1 : Option Value} {o2 : Option Value} {o3 : Option Value} {w : qk_W} {nc ns : Nat} {Q : Option Value ⊕ Nat → qk_W → Nat → Nat → Prop}   (hq : Q (.inl none) w nc ns) : Ev d m_Mo_spoil 58 [o0, o1, o2, o3] [] w nc ns Q := by
  exact ev_vret d_Mo_spoil_58 rfl hq
/-! Mo_mend -/
theorem d_Mo_mend_0 : decode m_Mo_mend.2.1 0 = .ok (.aload_n 0, 1) := by decide +kernel
theorem d_Mo_mend_1 : decode m_Mo_mend.2.1 1 = .ok (.aload_n 0, 1) := by decide +kernel
theorem d_Mo_mend_2 : decode m_Mo_mend.2.1 2 = .ok (.iload_n 1, 1) := by decide +kernel
theorem d_Mo_mend_3 : decode m_Mo_mend.2.1 3 = .ok (.invokevirtual 153, 3) := by decide +kernel
theorem d_Mo_mend_6 : decode m_Mo_mend.2.1 6 = .ok (.ifCond .eq 7, 3) := by decide +kernel
theorem d_Mo_mend_9 : decode m_Mo_mend.2.1 9 = .ok (.iconst 0, 1) := by decide +kernel
theorem d_Mo_mend_10 : decode m_Mo_mend.2.1 10 = .ok (.goto 4, 3) := by decide +kernel
theorem d_Mo_mend_13 : decode m_Mo_mend.2.1 13 = .ok (.iconst 1, 1) := by decide +kernel
theorem d_Mo_mend_14 : decode m_Mo_mend.2.1 14 = .ok (.putfield 69, 3) := by decide +kernel
theorem d_Mo_mend_17 : decode m_Mo_mend.2.1 17 = .ok (.aload_n 0, 1) := by decide +kernel
theorem d_Mo_mend_18 : decode m_Mo_mend.2.1 18 = .ok (.getfield 69, 3) := by decide +kernel
theorem d_Mo_mend_21 : decode m_Mo_mend.2.1 21 = .ok (.ifCond .le 4, 3) := by decide +kernel
theorem d_Mo_mend_24 : decode m_Mo_mend.2.1 24 = .ok (.return_, 1) := by decide +kernel
theorem d_Mo_mend_25 : decode m_Mo_mend.2.1 25 = .ok (.aload_n 0, 1) := by decide +kernel
theorem d_Mo_mend_26 : decode m_Mo_mend.2.1 26 = .ok (.getfield 51, 3) := by decide +kernel
theorem d_Mo_mend_29 : decode m_Mo_mend.2.1 29 = .ok (.iload_n 1, 1) := by decide +kernel
theorem d_Mo_mend_30 : decode m_Mo_mend.2.1 30 = .ok (.bipush 64, 2) := by decide +kernel
theorem d_Mo_mend_32 : decode m_Mo_mend.2.1 32 = .ok (.irem, 1) := by decide +kernel
theorem d_Mo_mend_33 : decode m_Mo_mend.2.1 33 = .ok (.iaload, 1) := by decide +kernel
theorem d_Mo_mend_34 : decode m_Mo_mend.2.1 34 = .ok (.istore_n 2, 1) := by decide +kernel
theorem d_Mo_mend_35 : decode m_Mo_mend.2.1 35 = .ok (.aload_n 0, 1) := by decide +kernel
theorem d_Mo_mend_36 : decode m_Mo_mend.2.1 36 = .ok (.iload_n 1, 1) := by decide +kernel
theorem d_Mo_mend_37 : decode m_Mo_mend.2.1 37 = .ok (.bipush 64, 2) := by decide +kernel
theorem d_Mo_mend_39 : decode m_Mo_mend.2.1 39 = .ok (.irem, 1) := by decide +kernel
theorem d_Mo_mend_40 : decode m_Mo_mend.2.1 40 = .ok (.iload_n 2, 1) := by decide +kernel
theorem d_Mo_mend_41 : decode m_Mo_mend.2.1 41 = .ok (.iconst 4, 1) := by decide +kernel
theorem d_Mo_mend_42 : decode m_Mo_mend.2.1 42 = .ok (.isub, 1) := by decide +kernel
theorem d_Mo_mend_43 : decode m_Mo_mend.2.1 43 = .ok (.invokevirtual 119, 3) := by decide +kernel
theorem d_Mo_mend_46 : decode m_Mo_mend.2.1 46 = .ok (.istore_n 3, 1) := by decide +kernel
theorem d_Mo_mend_47 : decode m_Mo_mend.2.1 47 = .ok (.iconst 0, 1) := by decide +kernel
theorem d_Mo_mend_48 : decode m_Mo_mend.2.1 48 = .ok (.istore 4, 2) := by decide +kernel
theorem d_Mo_mend_50 : decode m_Mo_mend.2.1 50 = .ok (.iload 4, 2) := by decide +kernel
theorem d_Mo_mend_52 : decode m_Mo_mend.2.1 52 = .ok (.iconst 4, 1) := by decide +kernel
theorem d_Mo_mend_53 : decode m_Mo_mend.2.1 53 = .ok (.if_icmp .ge 40, 3) := by decide +kernel
theorem d_Mo_mend_56 : decode m_Mo_mend.2.1 56 = .ok (.aload_n 0, 1) := by decide +kernel
theorem d_Mo_mend_57 : decode m_Mo_mend.2.1 57 = .ok (.getfield 47, 3) := by decide +kernel
theorem d_Mo_mend_60 : decode m_Mo_mend.2.1 60 = .ok (.sipush 512, 3) := by decide +kernel
theorem d_Mo_mend_63 : decode m_Mo_mend.2.1 63 = .ok (.iload_n 1, 1) := by decide +kernel
theorem d_Mo_mend_64 : decode m_Mo_mend.2.1 64 = .ok (.bipush 64, 2) := by decide +kernel
theorem d_Mo_mend_66 : decode m_Mo_mend.2.1 66 = .ok (.irem, 1) := by decide +kernel
theorem d_Mo_mend_67 : decode m_Mo_mend.2.1 67 = .ok (.imul, 1) := by decide +kernel
theorem d_Mo_mend_68 : decode m_Mo_mend.2.1 68 = .ok (.iload_n 2, 1) := by decide +kernel
theorem d_Mo_mend_69 : decode m_Mo_mend.2.1 69 = .ok (.iadd, 1) := by decide +kernel
theorem d_Mo_mend_70 : decode m_Mo_mend.2.1 70 = .ok (.iconst 4, 1) := by decide +kernel
theorem d_Mo_mend_71 : decode m_Mo_mend.2.1 71 = .ok (.isub, 1) := by decide +kernel
theorem d_Mo_mend_72 : decode m_Mo_mend.2.1 72 = .ok (.iload 4, 2) := by decide +kernel
theorem d_Mo_mend_74 : decode m_Mo_mend.2.1 74 = .ok (.iadd, 1) := by decide +kernel
theorem d_Mo_mend_75 : decode m_Mo_mend.2.1 75 = .ok (.iload_n 3, 1) := by decide +kernel
theorem d_Mo_mend_76 : decode m_Mo_mend.2.1 76 = .ok (.bipush 24, 2) := by decide +kernel
theorem d_Mo_mend_78 : decode m_Mo_mend.2.1 78 = .ok (.bipush 8, 2) := by decide +kernel
theorem d_Mo_mend_80 : decode m_Mo_mend.2.1 80 = .ok (.iload 4, 2) := by decide +kernel
theorem d_Mo_mend_82 : decode m_Mo_mend.2.1 82 = .ok (.imul, 1) := by decide +kernel
theorem d_Mo_mend_83 : decode m_Mo_mend.2.1 83 = .ok (.isub, 1) := by decide +kernel
theorem d_Mo_mend_84 : decode m_Mo_mend.2.1 84 = .ok (.ishr, 1) := by decide +kernel
theorem d_Mo_mend_85 : decode m_Mo_mend.2.1 85 = .ok (.i2b, 1) := by decide +kernel
theorem d_Mo_mend_86 : decode m_Mo_mend.2.1 86 = .ok (.bastore, 1) := by decide +kernel
theorem d_Mo_mend_87 : decode m_Mo_mend.2.1 87 = .ok (.iinc 4 1, 3) := by decide +kernel
theorem d_Mo_mend_90 : decode m_Mo_mend.2.1 90 = .ok (.goto (-40), 3) := by decide +kernel
theorem d_Mo_mend_93 : decode m_Mo_mend.2.1 93 = .ok (.return_, 1) := by decide +kernel
theorem t_Mo_mend_0 {d : Nat} {st : List Value} {a0 : Nat} {x1 : Int32} {o2 : Option Value} {o3 : Option Value} {o4 : Option Value} {fsb : List Value} {w : qk_W} {nc ns : Nat} {Q : Option Value ⊕ Nat → qk_W → Nat → Nat → Prop}  (hb : wo w a0 11 fsb) (h8 : ((.ref a0 :: st).map fun v => Value.category v).sum ≤ 8) (k : Ev d m_Mo_isSlot 0 [some (.ref a0), some (.int x1)] [] w nc ns (fun r w1 nc1 ns1 => match r with | .inl v => Ev (d + 1) m_Mo_mend 6 [some (.ref a0), some (.int x1), o2, o3, o4] (v.toList ++ (.ref a0 :: st)) w1 nc1 ns1 Q | .inr x => Q (.inr x) w1 nc1 ns1)) : Ev (d + 1) m_Mo_mend 0 [some (.ref a0), some (.int x1), o2, o3, o4] st w nc ns Q := by
  refine ev_aload_n d_Mo_mend_0 rfl rfl ?_
  refine ev_aload_n d_Mo_mend_1 rfl rfl ?_
  refine ev_iload_n d_Mo_mend_2 rfl ?_
  exact ev_call (M' := m_Mo_isSlot) (As := [.ref a0, .int x1]) (st := (.ref a0 :: st)) d_Mo_mend_3 i_Mo_isSlot (fun h => absurd h (by decide +kernel)) cw_Mo_153 rfl rfl ⟨hb.1, 11, _, _, hb.2, rfl, rfl⟩ rfl (Nat.le_of_ble_eq_true rfl) h8 k
theorem t_Mo_mend_6 {d : Nat} {st : List Value} {o0 : Option Value} {o1 : Option Value} {o2 : Option Value} {o3 : Option Value} {o4 : Option Value} {y0 : Int32} {w : qk_W} {nc ns : Nat} {Q : Option Value ⊕ Nat → qk_W → Nat → Nat → Prop}   (kt : y0 = 0 → Ev d m_Mo_mend 13 [o0, o1, o2, o3, o4] st w nc ns Q) (kf : ¬ (y0 = 0) → Ev d m_Mo_mend 9 [o0, o1, o2, o3, o4] st w nc ns Q) : Ev d m_Mo_mend 6 [o0, o1, o2, o3, o4] (.int y0 :: st) w nc ns Q := by
  exact ev_if_eq 13 d_Mo_mend_6 (by decide) kt kf
theorem t_Mo_mend_9 {d : Nat} {st : List Value} {o0 : Option Value} {o1 : Option Value} {o2 : Option Value} {o3 : Option Value} {o4 : Option Value} {b0 : Nat} {fs2 : List Value} {w : qk_W} {nc ns : Nat} {Q : Option Value ⊕ Nat → qk_W → Nat → Nat → Prop}  (hw1 : wo w b0 11 fs2) (hk : 0 < fs2.length) (k : Ev d m_Mo_mend 17 [o0, o1, o2, o3, o4] st (qk_set w b0 (.inr (11, fs2.set 0 (.int 0)))) nc ns Q) : Ev d m_Mo_mend 9 [o0, o1, o2, o3, o4] (.ref b0 :: st) w nc ns Q := by
  refine ev_iconst 0 d_Mo_mend_9 (by decide) ?_
  refine ev_goto 14 d_Mo_mend_10 (by decide) ?_
  exact ev_putf d_Mo_mend_14 fl_Mo_69 rfl hw1.1 hw1.2 hk (qk_fitI _) k
theorem t_Mo_mend_13 {d : Nat} {st : List Value} {o0 : Option Value} {o1 : Option Value} {o2 : Option Value} {o3 : Option Value} {o4 : Option Value} {b0 : Nat} {fs2 : List Value} {w : qk_W} {nc ns : Nat} {Q : Option Value ⊕ Nat → qk_W → Nat → Nat → Prop}  (hw1 : wo w b0 11 fs2) (hk : 0 < fs2.length) (k : Ev d m_Mo_mend 17 [o0, o1, o2, o3, o4] st (qk_set w b0 (.inr (11, fs2.set 0 (.int 1)))) nc ns Q) : Ev d m_Mo_mend 13 [o0, o1, o2, o3, o4] (.ref b0 :: st) w nc ns Q := by
  refine ev_iconst 1 d_Mo_mend_13 (by decide) ?_
  exact ev_putf d_Mo_mend_14 fl_Mo_69 rfl hw1.1 hw1.2 hk (qk_fitI _) k
theorem t_Mo_mend_17 {d : Nat} {st : List Value} {a0 : Nat} {o1 : Option Value} {o2 : Option Value} {o3 : Option Value} {o4 : Option Value} {fs2 : List Value} {n4 : Int32} {w : qk_W} {nc ns : Nat} {Q : Option Value ⊕ Nat → qk_W → Nat → Nat → Prop}  (hw1 : wo w a0 11 fs2) (hf3 : fs2[0]? = some (.int n4)) (kt : n4 ≤ 0 → Ev d m_Mo_mend 25 [some (.ref a0), o1, o2, o3, o4] st w nc ns Q) (kf : ¬ (n4 ≤ 0) → Ev d m_Mo_mend 24 [some (.ref a0), o1, o2, o3, o4] st w nc ns Q) : Ev d m_Mo_mend 17 [some (.ref a0), o1, o2, o3, o4] st w nc ns Q := by
  refine ev_aload_n d_Mo_mend_17 rfl rfl ?_
  refine ev_getf d_Mo_mend_18 fl_Mo_69 hw1.1 hw1.2 hf3 ?_
  exact ev_if_le 25 d_Mo_mend_21 (by decide) kt kf
theorem t_Mo_mend_24 {d : Nat} {o0 : Option Value} {o1 : Option Value} {o2 : Option Value} {o3 : Option Value} {o4 : Option Value} {w : qk_W} {nc ns : Nat} {Q : Option Value ⊕ Nat → qk_W → Nat → Nat → Prop}   (hq : Q (.inl none) w nc ns) : Ev d m_Mo_mend 24 [o0, o1, o2, o3, o4] [] w nc ns Q := by
  exact ev_vret d_Mo_mend_24 rfl hq
theorem t_Mo_mend_25 {d : Nat} {st : List Value} {a0 : Nat} {x1 : Int32} {o2 : Option Value} {o3 : Option Value} {o4 : Option Value} {fs2 : List Value} {c4 : Nat} {n6 : Nat} {f7 : Nat → Int32} {w : qk_W} {nc ns : Nat} {Q : Option Value ⊕ Nat → qk_W → Nat → Nat → Prop}  (hw1 : wo w a0 11 fs2) (hf3 : fs2[15]? = some (.ref c4)) (ha5 : wi w c4 n6 f7) (hi8 : vp_in (qi_rem x1 64) n6) (h8 : (st.map fun v => Value.category v).sum ≤ 8) (k : Ev d m_Mo_check 0 [some (.ref a0), some (.int (qi_rem x1 64)), some (.int ((f7 (qi_rem x1 64).toNatClampNeg) - 4)), none, none, none, none] [] w nc ns (fun r w1 nc1 ns1 => match r with | .inl v => Ev (d + 1) m_Mo_mend 46 [some (.ref a0), some (.int x1), some (.int (f7 (qi_rem x1 64).toNatClampNeg)), o3, o4] (v.toList ++ st) w1 nc1 ns1 Q | .inr x => Q (.inr x) w1 nc1 ns1)) : Ev (d + 1) m_Mo_mend 25 [some (.ref a0), some (.int x1), o2, o3, o4] st w nc ns Q := by
  refine ev_aload_n d_Mo_mend_25 rfl rfl ?_
  refine ev_getf d_Mo_mend_26 fl_Mo_51 hw1.1 hw1.2 hf3 ?_
  refine ev_iload_n d_Mo_mend_29 rfl ?_
  refine ev_bipush 64 d_Mo_mend_30 (by decide) ?_
  refine ev_irem d_Mo_mend_32 (by decide) ?_
  refine ev_iald d_Mo_mend_33 ha5 hi8 ?_
  refine ev_istore_n d_Mo_mend_34 (by decide) rfl ?_
  refine ev_aload_n d_Mo_mend_35 rfl rfl ?_
  refine ev_iload_n d_Mo_mend_36 rfl ?_
  refine ev_bipush 64 d_Mo_mend_37 (by decide) ?_
  refine ev_irem d_Mo_mend_39 (by decide) ?_
  refine ev_iload_n d_Mo_mend_40 rfl ?_
  refine ev_iconst 4 d_Mo_mend_41 (by decide) ?_
  refine ev_isub d_Mo_mend_42 ?_
  exact ev_call (M' := m_Mo_check) (As := [.ref a0, .int (qi_rem x1 64), .int ((f7 (qi_rem x1 64).toNatClampNeg) - 4)]) (st := st) d_Mo_mend_43 i_Mo_check (fun h => absurd h (by decide +kernel)) cw_Mo_119 rfl rfl ⟨hw1.1, 11, _, _, hw1.2, rfl, rfl⟩ rfl (Nat.le_of_ble_eq_true rfl) h8 k
theorem t_Mo_mend_46 {d : Nat} {st : List Value} {o0 : Option Value} {o1 : Option Value} {o2 : Option Value} {o3 : Option Value} {o4 : Option Value} {y0 : Int32} {w : qk_W} {nc ns : Nat} {Q : Option Value ⊕ Nat → qk_W → Nat → Nat → Prop}  (hc1 : qk_c2 [o0, o1, o2, o3, o4] 3 = true) (k : Ev d m_Mo_mend 50 [o0, o1, o2, some (.int y0), some (.int 0)] st w nc ns Q) : Ev d m_Mo_mend 46 [o0, o1, o2, o3, o4] (.int y0 :: st) w nc ns Q := by
  refine ev_istore_n d_Mo_mend_46 (by decide) hc1 ?_
  refine ev_iconst 0 d_Mo_mend_47 (by decide) ?_
  refine ev_istore d_Mo_mend_48 (by decide) rfl ?_
  exact k
theorem t_Mo_mend_50 {d : Nat} {st : List Value} {o0 : Option Value} {o1 : Option Value} {o2 : Option Value} {o3 : Option Value} {x4 : Int32} {w : qk_W} {nc ns : Nat} {Q : Option Value ⊕ Nat → qk_W → Nat → Nat → Prop}   (kt : (4 : Int32) ≤ x4 → Ev d m_Mo_mend 93 [o0, o1, o2, o3, some (.int x4)] st w nc ns Q) (kf : ¬ ((4 : Int32) ≤ x4) → Ev d m_Mo_mend 56 [o0, o1, o2, o3, some (.int x4)] st w nc ns Q) : Ev d m_Mo_mend 50 [o0, o1, o2, o3, some (.int x4)] st w nc ns Q := by
  refine ev_iload d_Mo_mend_50 rfl ?_
  refine ev_iconst 4 d_Mo_mend_52 (by decide) ?_
  exact ev_icmp_ge 93 d_Mo_mend_53 (by decide) kt kf
theorem t_Mo_mend_56 {d : Nat} {st : List Value} {a0 : Nat} {x1 : Int32} {x2 : Int32} {x3 : Int32} {x4 : Int32} {fs2 : List Value} {c4 : Nat} {n6 : Nat} {f7 : Nat → Int32} {w : qk_W} {nc ns : Nat} {Q : Option Value ⊕ Nat → qk_W → Nat → Nat → Prop}  (hw1 : wo w a0 11 fs2) (hf3 : fs2[14]? = some (.ref c4)) (ha5 : wb w c4 n6 f7) (hi : vp_in ((((512 * (qi_rem x1 64)) + x2) - 4) + x4) n6) (k : Ev d m_Mo_mend 87 [some (.ref a0), some (.int x1), some (.int x2), some (.int x3), some (.int x4)] st (qk_set w c4 (.inl (.byte, n6, .inl (upd f7 ((((512 * (qi_rem x1 64)) + x2) - 4) + x4).toNatClampNeg (Int32.toInt8 ((Int32.toInt8 (qi_shr x3 (24 - (8 * x4)))).toInt32)).toInt32)))) nc ns Q) : Ev d m_Mo_mend 56 [some (.ref a0), some (.int x1), some (.int x2), some (.int x3), some (.int x4)] st w nc ns Q := by
  refine ev_aload_n d_Mo_mend_56 rfl rfl ?_
  refine ev_getf d_Mo_mend_57 fl_Mo_47 hw1.1 hw1.2 hf3 ?_
  refine ev_sipush 512 d_Mo_mend_60 (by decide) ?_
  refine ev_iload_n d_Mo_mend_63 rfl ?_
  refine ev_bipush 64 d_Mo_mend_64 (by decide) ?_
  refine ev_irem d_Mo_mend_66 (by decide) ?_
  refine ev_imul d_Mo_mend_67 ?_
  refine ev_iload_n d_Mo_mend_68 rfl ?_
  refine ev_iadd d_Mo_mend_69 ?_
  refine ev_iconst 4 d_Mo_mend_70 (by decide) ?_
  refine ev_isub d_Mo_mend_71 ?_
  refine ev_iload d_Mo_mend_72 rfl ?_
  refine ev_iadd d_Mo_mend_74 ?_
  refine ev_iload_n d_Mo_mend_75 rfl ?_
  refine ev_bipush 24 d_Mo_mend_76 (by decide) ?_
  refine ev_bipush 8 d_Mo_mend_78 (by decide) ?_
  refine ev_iload d_Mo_mend_80 rfl ?_
  refine ev_imul d_Mo_mend_82 ?_
  refine ev_isub d_Mo_mend_83 ?_
  refine ev_ishr d_Mo_mend_84 ?_
  refine ev_i2b d_Mo_mend_85 ?_
  exact ev_bast d_Mo_mend_86 ha5.1 ha5.2 hi k
theorem t_Mo_mend_87 {d : Nat} {st : List Value} {o0 : Option Value} {o1 : Option Value} {o2 : Option Value} {o3 : Option Value} {x4 : Int32} {w : qk_W} {nc ns : Nat} {Q : Option Value ⊕ Nat → qk_W → Nat → Nat → Prop}  (hc1 : qk_c2 [o0, o1, o2, o3, some (.int x4)] 4 = true) (k : Ev d m_Mo_mend 50 [o0, o1, o2, o3, some (.int (x4 + 1))] st w nc ns Q) : Ev d m_Mo_mend 87 [o0, o1, o2, o3, some (.int x4)] st w nc ns Q := by
  refine ev_iinc 1 d_Mo_mend_87 (by decide) rfl (by decide) hc1 ?_
  refine ev_goto 50 d_Mo_mend_90 (by decide) ?_
  exact k
theorem t_Mo_mend_93 {d : Nat} {o0 : Option Value} {o1 : Option Value} {o2 : Option Value} {o3 : Option Value} {o4 : Option Value} {w : qk_W} {nc ns : Nat} {Q : Option Value ⊕ Nat → qk_W → Nat → Nat → Prop}   (hq : Q (.inl none) w nc ns) : Ev d m_Mo_mend 93 [o0, o1, o2, o3, o4] [] w nc ns Q := by
  exact ev_vret d_Mo_mend_93 rfl hq
/-! Mo_hear -/
theorem cw_Mo_165 : qk_cw "QuakeLinkModel" m_Mo_isChecked.1 (.invokevirtual 165) := ⟨(lw_i5 _ (List.mem_of_getElem? (i := 166) rfl)), (lw_i5 _ (List.mem_of_getElem? (i := 168) rfl)), (lw_i0 _ (List.mem_of_getElem? (i := 38) rfl))⟩
theorem cw_Mo_161 : qk_cw "QuakeLinkModel" m_Mo_get.1 (.invokevirtual 161) := ⟨(lw_i5 _ (List.mem_of_getElem? (i := 170) rfl)), (lw_i5 _ (List.mem_of_getElem? (i := 172) rfl)), (lw_i0 _ (List.mem_of_getElem? (i := 39) rfl))⟩
theorem fl_Mo_168 : qk_fl "QuakeLinkModel" 168 11 23 := ⟨_, rfl, by decide, rfl, (lw_i4 _ (List.mem_of_getElem? (i := 199) rfl))⟩
theorem d_Mo_hear_0 : decode m_Mo_hear.2.1 0 = .ok (.aload_n 0, 1) := by decide +kernel
theorem d_Mo_hear_1 : decode m_Mo_hear.2.1 1 = .ok (.aload_n 0, 1) := by decide +kernel
theorem d_Mo_hear_2 : decode m_Mo_hear.2.1 2 = .ok (.iload_n 1, 1) := by decide +kernel
theorem d_Mo_hear_3 : decode m_Mo_hear.2.1 3 = .ok (.invokevirtual 153, 3) := by decide +kernel
theorem d_Mo_hear_6 : decode m_Mo_hear.2.1 6 = .ok (.ifCond .eq 7, 3) := by decide +kernel
theorem d_Mo_hear_9 : decode m_Mo_hear.2.1 9 = .ok (.iconst 0, 1) := by decide +kernel
theorem d_Mo_hear_10 : decode m_Mo_hear.2.1 10 = .ok (.goto 4, 3) := by decide +kernel
theorem d_Mo_hear_13 : decode m_Mo_hear.2.1 13 = .ok (.iconst 1, 1) := by decide +kernel
theorem d_Mo_hear_14 : decode m_Mo_hear.2.1 14 = .ok (.putfield 69, 3) := by decide +kernel
theorem d_Mo_hear_17 : decode m_Mo_hear.2.1 17 = .ok (.aload_n 0, 1) := by decide +kernel
theorem d_Mo_hear_18 : decode m_Mo_hear.2.1 18 = .ok (.getfield 69, 3) := by decide +kernel
theorem d_Mo_hear_21 : decode m_Mo_hear.2.1 21 = .ok (.ifCond .le 5, 3) := by decide +kernel
theorem d_Mo_hear_24 : decode m_Mo_hear.2.1 24 = .ok (.iconst 0, 1) := by decide +kernel
theorem d_Mo_hear_25 : decode m_Mo_hear.2.1 25 = .ok (.ireturn, 1) := by decide +kernel
theorem d_Mo_hear_26 : decode m_Mo_hear.2.1 26 = .ok (.aload_n 0, 1) := by decide +kernel
theorem d_Mo_hear_27 : decode m_Mo_hear.2.1 27 = .ok (.iload_n 1, 1) := by decide +kernel
theorem d_Mo_hear_28 : decode m_Mo_hear.2.1 28 = .ok (.bipush 64, 2) := by decide +kernel
theorem d_Mo_hear_30 : decode m_Mo_hear.2.1 30 = .ok (.irem, 1) := by decide +kernel
theorem d_Mo_hear_31 : decode m_Mo_hear.2.1 31 = .ok (.putfield 112, 3) := by decide +kernel
theorem d_Mo_hear_34 : decode m_Mo_hear.2.1 34 = .ok (.aload_n 0, 1) := by decide +kernel
theorem d_Mo_hear_35 : decode m_Mo_hear.2.1 35 = .ok (.getfield 51, 3) := by decide +kernel
theorem d_Mo_hear_38 : decode m_Mo_hear.2.1 38 = .ok (.aload_n 0, 1) := by decide +kernel
theorem d_Mo_hear_39 : decode m_Mo_hear.2.1 39 = .ok (.getfield 112, 3) := by decide +kernel
theorem d_Mo_hear_42 : decode m_Mo_hear.2.1 42 = .ok (.iaload, 1) := by decide +kernel
theorem d_Mo_hear_43 : decode m_Mo_hear.2.1 43 = .ok (.bipush 16, 2) := by decide +kernel
theorem d_Mo_hear_45 : decode m_Mo_hear.2.1 45 = .ok (.if_icmp .ne 16, 3) := by decide +kernel
theorem d_Mo_hear_48 : decode m_Mo_hear.2.1 48 = .ok (.aload_n 0, 1) := by decide +kernel
theorem d_Mo_hear_49 : decode m_Mo_hear.2.1 49 = .ok (.bipush 16, 2) := by decide +kernel
theorem d_Mo_hear_51 : decode m_Mo_hear.2.1 51 = .ok (.invokevirtual 165, 3) := by decide +kernel
theorem d_Mo_hear_54 : decode m_Mo_hear.2.1 54 = .ok (.ifCond .eq 7, 3) := by decide +kernel
theorem d_Mo_hear_57 : decode m_Mo_hear.2.1 57 = .ok (.iconst 1, 1) := by decide +kernel
theorem d_Mo_hear_58 : decode m_Mo_hear.2.1 58 = .ok (.goto 4, 3) := by decide +kernel
theorem d_Mo_hear_61 : decode m_Mo_hear.2.1 61 = .ok (.iconst 0, 1) := by decide +kernel
theorem d_Mo_hear_62 : decode m_Mo_hear.2.1 62 = .ok (.istore_n 2, 1) := by decide +kernel
theorem d_Mo_hear_63 : decode m_Mo_hear.2.1 63 = .ok (.aload_n 0, 1) := by decide +kernel
theorem d_Mo_hear_64 : decode m_Mo_hear.2.1 64 = .ok (.iconst 0, 1) := by decide +kernel
theorem d_Mo_hear_65 : decode m_Mo_hear.2.1 65 = .ok (.putfield 115, 3) := by decide +kernel
theorem d_Mo_hear_68 : decode m_Mo_hear.2.1 68 = .ok (.aload_n 0, 1) := by decide +kernel
theorem d_Mo_hear_69 : decode m_Mo_hear.2.1 69 = .ok (.bipush 8, 2) := by decide +kernel
theorem d_Mo_hear_71 : decode m_Mo_hear.2.1 71 = .ok (.invokevirtual 161, 3) := by decide +kernel
theorem d_Mo_hear_74 : decode m_Mo_hear.2.1 74 = .ok (.l2i, 1) := by decide +kernel
theorem d_Mo_hear_75 : decode m_Mo_hear.2.1 75 = .ok (.istore_n 3, 1) := by decide +kernel
theorem d_Mo_hear_76 : decode m_Mo_hear.2.1 76 = .ok (.aload_n 0, 1) := by decide +kernel
theorem d_Mo_hear_77 : decode m_Mo_hear.2.1 77 = .ok (.bipush 24, 2) := by decide +kernel
theorem d_Mo_hear_79 : decode m_Mo_hear.2.1 79 = .ok (.invokevirtual 161, 3) := by decide +kernel
theorem d_Mo_hear_82 : decode m_Mo_hear.2.1 82 = .ok (.lconst 0, 1) := by decide +kernel
theorem d_Mo_hear_83 : decode m_Mo_hear.2.1 83 = .ok (.lcmp, 1) := by decide +kernel
theorem d_Mo_hear_84 : decode m_Mo_hear.2.1 84 = .ok (.ifCond .ne 16, 3) := by decide +kernel
theorem d_Mo_hear_87 : decode m_Mo_hear.2.1 87 = .ok (.iload_n 2, 1) := by decide +kernel
theorem d_Mo_hear_88 : decode m_Mo_hear.2.1 88 = .ok (.ifCond .eq 12, 3) := by decide +kernel
theorem d_Mo_hear_91 : decode m_Mo_hear.2.1 91 = .ok (.iload_n 3, 1) := by decide +kernel
theorem d_Mo_hear_92 : decode m_Mo_hear.2.1 92 = .ok (.iconst 4, 1) := by decide +kernel
theorem d_Mo_hear_93 : decode m_Mo_hear.2.1 93 = .ok (.if_icmp .ge 7, 3) := by decide +kernel
theorem d_Mo_hear_96 : decode m_Mo_hear.2.1 96 = .ok (.iconst 1, 1) := by decide +kernel
theorem d_Mo_hear_97 : decode m_Mo_hear.2.1 97 = .ok (.goto 4, 3) := by decide +kernel
theorem d_Mo_hear_100 : decode m_Mo_hear.2.1 100 = .ok (.iconst 0, 1) := by decide +kernel
theorem d_Mo_hear_101 : decode m_Mo_hear.2.1 101 = .ok (.istore_n 2, 1) := by decide +kernel
theorem d_Mo_hear_102 : decode m_Mo_hear.2.1 102 = .ok (.aload_n 0, 1) := by decide +kernel
theorem d_Mo_hear_103 : decode m_Mo_hear.2.1 103 = .ok (.bipush 32, 2) := by decide +kernel
theorem d_Mo_hear_105 : decode m_Mo_hear.2.1 105 = .ok (.invokevirtual 161, 3) := by decide +kernel
theorem d_Mo_hear_108 : decode m_Mo_hear.2.1 108 = .ok (.lstore 4, 2) := by decide +kernel
theorem d_Mo_hear_110 : decode m_Mo_hear.2.1 110 = .ok (.aload_n 0, 1) := by decide +kernel
theorem d_Mo_hear_111 : decode m_Mo_hear.2.1 111 = .ok (.bipush 32, 2) := by decide +kernel
theorem d_Mo_hear_113 : decode m_Mo_hear.2.1 113 = .ok (.invokevirtual 161, 3) := by decide +kernel
theorem d_Mo_hear_116 : decode m_Mo_hear.2.1 116 = .ok (.lstore 6, 2) := by decide +kernel
theorem d_Mo_hear_118 : decode m_Mo_hear.2.1 118 = .ok (.iload_n 2, 1) := by decide +kernel
theorem d_Mo_hear_119 : decode m_Mo_hear.2.1 119 = .ok (.ifCond .eq 11, 3) := by decide +kernel
theorem d_Mo_hear_122 : decode m_Mo_hear.2.1 122 = .ok (.lload 4, 2) := by decide +kernel
theorem d_Mo_hear_124 : decode m_Mo_hear.2.1 124 = .ok (.lload 6, 2) := by decide +kernel
theorem d_Mo_hear_126 : decode m_Mo_hear.2.1 126 = .ok (.lcmp, 1) := by decide +kernel
theorem d_Mo_hear_127 : decode m_Mo_hear.2.1 127 = .ok (.ifCond .le 15, 3) := by decide +kernel
theorem d_Mo_hear_130 : decode m_Mo_hear.2.1 130 = .ok (.aload_n 0, 1) := by decide +kernel
theorem d_Mo_hear_131 : decode m_Mo_hear.2.1 131 = .ok (.dup, 1) := by decide +kernel
theorem d_Mo_hear_132 : decode m_Mo_hear.2.1 132 = .ok (.getfield 168, 3) := by decide +kernel
theorem d_Mo_hear_135 : decode m_Mo_hear.2.1 135 = .ok (.iconst 1, 1) := by decide +kernel
theorem d_Mo_hear_136 : decode m_Mo_hear.2.1 136 = .ok (.iadd, 1) := by decide +kernel
theorem d_Mo_hear_137 : decode m_Mo_hear.2.1 137 = .ok (.putfield 168, 3) := by decide +kernel
theorem d_Mo_hear_140 : decode m_Mo_hear.2.1 140 = .ok (.iconst (-1), 1) := by decide +kernel
theorem d_Mo_hear_141 : decode m_Mo_hear.2.1 141 = .ok (.ireturn, 1) := by decide +kernel
theorem d_Mo_hear_142 : decode m_Mo_hear.2.1 142 = .ok (.iconst 0, 1) := by decide +kernel
theorem d_Mo_hear_143 : decode m_Mo_hear.2.1 143 = .ok (.istore 8, 2) := by decide +kernel
theorem d_Mo_hear_145 : decode m_Mo_hear.2.1 145 = .ok (.iconst 0, 1) := by decide +kernel
theorem d_Mo_hear_146 : decode m_Mo_hear.2.1 146 = .ok (.istore 9, 2) := by decide +kernel
theorem d_Mo_hear_148 : decode m_Mo_hear.2.1 148 = .ok (.iload 9, 2) := by decide +kernel
theorem d_Mo_hear_150 : decode m_Mo_hear.2.1 150 = .ok (.aload_n 0, 1) := by decide +kernel
theorem d_Mo_hear_151 : decode m_Mo_hear.2.1 151 = .ok (.getfield 17, 3) := by decide +kernel
theorem d_Mo_hear_154 : decode m_Mo_hear.2.1 154 = .ok (.iload_n 3, 1) := by decide +kernel
theorem d_Mo_hear_155 : decode m_Mo_hear.2.1 155 = .ok (.iaload, 1) := by decide +kernel
theorem d_Mo_hear_156 : decode m_Mo_hear.2.1 156 = .ok (.if_icmp .ge 58, 3) := by decide +kernel
theorem d_Mo_hear_159 : decode m_Mo_hear.2.1 159 = .ok (.iload 9, 2) := by decide +kernel
theorem d_Mo_hear_161 : decode m_Mo_hear.2.1 161 = .ok (.i2l, 1) := by decide +kernel
theorem d_Mo_hear_162 : decode m_Mo_hear.2.1 162 = .ok (.lload 4, 2) := by decide +kernel
theorem d_Mo_hear_164 : decode m_Mo_hear.2.1 164 = .ok (.lcmp, 1) := by decide +kernel
theorem d_Mo_hear_165 : decode m_Mo_hear.2.1 165 = .ok (.ifCond .lt 43, 3) := by decide +kernel
theorem d_Mo_hear_168 : decode m_Mo_hear.2.1 168 = .ok (.iload 9, 2) := by decide +kernel
theorem d_Mo_hear_170 : decode m_Mo_hear.2.1 170 = .ok (.i2l, 1) := by decide +kernel
theorem d_Mo_hear_171 : decode m_Mo_hear.2.1 171 = .ok (.lload 6, 2) := by decide +kernel
theorem d_Mo_hear_173 : decode m_Mo_hear.2.1 173 = .ok (.lcmp, 1) := by decide +kernel
theorem d_Mo_hear_174 : decode m_Mo_hear.2.1 174 = .ok (.ifCond .gt 34, 3) := by decide +kernel
theorem d_Mo_hear_177 : decode m_Mo_hear.2.1 177 = .ok (.aload_n 0, 1) := by decide +kernel
theorem d_Mo_hear_178 : decode m_Mo_hear.2.1 178 = .ok (.getfield 43, 3) := by decide +kernel
theorem d_Mo_hear_181 : decode m_Mo_hear.2.1 181 = .ok (.iload_n 3, 1) := by decide +kernel
theorem d_Mo_hear_182 : decode m_Mo_hear.2.1 182 = .ok (.ldc 46, 2) := by decide +kernel
theorem d_Mo_hear_184 : decode m_Mo_hear.2.1 184 = .ok (.imul, 1) := by decide +kernel
theorem d_Mo_hear_185 : decode m_Mo_hear.2.1 185 = .ok (.iload 9, 2) := by decide +kernel
theorem d_Mo_hear_187 : decode m_Mo_hear.2.1 187 = .ok (.iadd, 1) := by decide +kernel
theorem d_Mo_hear_188 : decode m_Mo_hear.2.1 188 = .ok (.baload, 1) := by decide +kernel
theorem d_Mo_hear_189 : decode m_Mo_hear.2.1 189 = .ok (.ifCond .ne 19, 3) := by decide +kernel
theorem d_Mo_hear_192 : decode m_Mo_hear.2.1 192 = .ok (.aload_n 0, 1) := by decide +kernel
theorem d_Mo_hear_193 : decode m_Mo_hear.2.1 193 = .ok (.getfield 43, 3) := by decide +kernel
theorem d_Mo_hear_196 : decode m_Mo_hear.2.1 196 = .ok (.iload_n 3, 1) := by decide +kernel
theorem d_Mo_hear_197 : decode m_Mo_hear.2.1 197 = .ok (.ldc 46, 2) := by decide +kernel
theorem d_Mo_hear_199 : decode m_Mo_hear.2.1 199 = .ok (.imul, 1) := by decide +kernel
theorem d_Mo_hear_200 : decode m_Mo_hear.2.1 200 = .ok (.iload 9, 2) := by decide +kernel
theorem d_Mo_hear_202 : decode m_Mo_hear.2.1 202 = .ok (.iadd, 1) := by decide +kernel
theorem d_Mo_hear_203 : decode m_Mo_hear.2.1 203 = .ok (.iconst 1, 1) := by decide +kernel
theorem d_Mo_hear_204 : decode m_Mo_hear.2.1 204 = .ok (.bastore, 1) := by decide +kernel
theorem d_Mo_hear_205 : decode m_Mo_hear.2.1 205 = .ok (.iinc 8 1, 3) := by decide +kernel
theorem d_Mo_hear_208 : decode m_Mo_hear.2.1 208 = .ok (.iinc 9 1, 3) := by decide +kernel
theorem d_Mo_hear_211 : decode m_Mo_hear.2.1 211 = .ok (.goto (-63), 3) := by decide +kernel
theorem d_Mo_hear_214 : decode m_Mo_hear.2.1 214 = .ok (.iload 8, 2) := by decide +kernel
theorem d_Mo_hear_216 : decode m_Mo_hear.2.1 216 = .ok (.ireturn, 1) := by decide +kernel
theorem t_Mo_hear_0 {d : Nat} {st : List Value} {a0 : Nat} {x1 : Int32} {o2 : Option Value} {o3 : Option Value} {o4 : Option Value} {o5 : Option Value} {o6 : Option Value} {o7 : Option Value} {o8 : Option Value} {o9 : Option Value} {fsb : List Value} {w : qk_W} {nc ns : Nat} {Q : Option Value ⊕ Nat → qk_W → Nat → Nat → Prop}  (hb : wo w a0 11 fsb) (h8 : ((.ref a0 :: st).map fun v => Value.category v).sum ≤ 8) (k : Ev d m_Mo_isSlot 0 [some (.ref a0), some (.int x1)] [] w nc ns (fun r w1 nc1 ns1 => match r with | .inl v => Ev (d + 1) m_Mo_hear 6 [some (.ref a0), some (.int x1), o2, o3, o4, o5, o6, o7, o8, o9] (v.toList ++ (.ref a0 :: st)) w1 nc1 ns1 Q | .inr x => Q (.inr x) w1 nc1 ns1)) : Ev (d + 1) m_Mo_hear 0 [some (.ref a0), some (.int x1), o2, o3, o4, o5, o6, o7, o8, o9] st w nc ns Q := by
  refine ev_aload_n d_Mo_hear_0 rfl rfl ?_
  refine ev_aload_n d_Mo_hear_1 rfl rfl ?_
  refine ev_iload_n d_Mo_hear_2 rfl ?_
  exact ev_call (M' := m_Mo_isSlot) (As := [.ref a0, .int x1]) (st := (.ref a0 :: st)) d_Mo_hear_3 i_Mo_isSlot (fun h => absurd h (by decide +kernel)) cw_Mo_153 rfl rfl ⟨hb.1, 11, _, _, hb.2, rfl, rfl⟩ rfl (Nat.le_of_ble_eq_true rfl) h8 k
theorem t_Mo_hear_6 {d : Nat} {st : List Value} {o0 : Option Value} {o1 : Option Value} {o2 : Option Value} {o3 : Option Value} {o4 : Option Value} {o5 : Option Value} {o6 : Option Value} {o7 : Option Value} {o8 : Option Value} {o9 : Option Value} {y0 : Int32} {w : qk_W} {nc ns : Nat} {Q : Option Value ⊕ Nat → qk_W → Nat → Nat → Prop}   (kt : y0 = 0 → Ev d m_Mo_hear 13 [o0, o1, o2, o3, o4, o5, o6, o7, o8, o9] st w nc ns Q) (kf : ¬ (y0 = 0) → Ev d m_Mo_hear 9 [o0, o1, o2, o3, o4, o5, o6, o7, o8, o9] st w nc ns Q) : Ev d m_Mo_hear 6 [o0, o1, o2, o3, o4, o5, o6, o7, o8, o9] (.int y0 :: st) w nc ns Q := by
  exact ev_if_eq 13 d_Mo_hear_6 (by decide) kt kf
theorem t_Mo_hear_9 {d : Nat} {st : List Value} {o0 : Option Value} {o1 : Option Value} {o2 : Option Value} {o3 : Option Value} {o4 : Option Value} {o5 : Option Value} {o6 : Option Value} {o7 : Option Value} {o8 : Option Value} {o9 : Option Value} {b0 : Nat} {fs2 : List Value} {w : qk_W} {nc ns : Nat} {Q : Option Value ⊕ Nat → qk_W → Nat → Nat → Prop}  (hw1 : wo w b0 11 fs2) (hk : 0 < fs2.length) (k : Ev d m_Mo_hear 17 [o0, o1, o2, o3, o4, o5, o6, o7, o8, o9] st (qk_set w b0 (.inr (11, fs2.set 0 (.int 0)))) nc ns Q) : Ev d m_Mo_hear 9 [o0, o1, o2, o3, o4, o5, o6, o7, o8, o9] (.ref b0 :: st) w nc ns Q := by
  refine ev_iconst 0 d_Mo_hear_9 (by decide) ?_
  refine ev_goto 14 d_Mo_hear_10 (by decide) ?_
  exact ev_putf d_Mo_hear_14 fl_Mo_69 rfl hw1.1 hw1.2 hk (qk_fitI _) k
theorem t_Mo_hear_13 {d : Nat} {st : List Value} {o0 : Option Value} {o1 : Option Value} {o2 : Option Value} {o3 : Option Value} {o4 : Option Value} {o5 : Option Value} {o6 : Option Value} {o7 : Option Value} {o8 : Option Value} {o9 : Option Value} {b0 : Nat} {fs2 : List Value} {w : qk_W} {nc ns : Nat} {Q : Option Value ⊕ Nat → qk_W → Nat → Nat → Prop}  (hw1 : wo w b0 11 fs2) (hk : 0 < fs2.length) (k : Ev d m_Mo_hear 17 [o0, o1, o2, o3, o4, o5, o6, o7, o8, o9] st (qk_set w b0 (.inr (11, fs2.set 0 (.int 1)))) nc ns Q) : Ev d m_Mo_hear 13 [o0, o1, o2, o3, o4, o5, o6, o7, o8, o9] (.ref b0 :: st) w nc ns Q := by
  refine ev_iconst 1 d_Mo_hear_13 (by decide) ?_
  exact ev_putf d_Mo_hear_14 fl_Mo_69 rfl hw1.1 hw1.2 hk (qk_fitI _) k
theorem t_Mo_hear_17 {d : Nat} {st : List Value} {a0 : Nat} {o1 : Option Value} {o2 : Option Value} {o3 : Option Value} {o4 : Option Value} {o5 : Option Value} {o6 : Option Value} {o7 : Option Value} {o8 : Option Value} {o9 : Option Value} {fs2 : List Value} {n4 : Int32} {w : qk_W} {nc ns : Nat} {Q : Option Value ⊕ Nat → qk_W → Nat → Nat → Prop}  (hw1 : wo w a0 11 fs2) (hf3 : fs2[0]? = some (.int n4)) (kt : n4 ≤ 0 → Ev d m_Mo_hear 26 [some (.ref a0), o1, o2, o3, o4, o5, o6, o7, o8, o9] st w nc ns Q) (kf : ¬ (n4 ≤ 0) → Ev d m_Mo_hear 24 [some (.ref a0), o1, o2, o3, o4, o5, o6, o7, o8, o9] st w nc ns Q) : Ev d m_Mo_hear 17 [some (.ref a0), o1, o2, o3, o4, o5, o6, o7, o8, o9] st w nc ns Q := by
  refine ev_aload_n d_Mo_hear_17 rfl rfl ?_
  refine ev_getf d_Mo_hear_18 fl_Mo_69 hw1.1 hw1.2 hf3 ?_
  exact ev_if_le 26 d_Mo_hear_21 (by decide) kt kf
theorem t_Mo_hear_24 {d : Nat} {o0 : Option Value} {o1 : Option Value} {o2 : Option Value} {o3 : Option Value} {o4 : Option Value} {o5 : Option Value} {o6 : Option Value} {o7 : Option Value} {o8 : Option Value} {o9 : Option Value} {w : qk_W} {nc ns : Nat} {Q : Option Value ⊕ Nat → qk_W → Nat → Nat → Prop}   (hq : Q (.inl (some (.int 0))) w nc ns) : Ev d m_Mo_hear 24 [o0, o1, o2, o3, o4, o5, o6, o7, o8, o9] [] w nc ns Q := by
  refine ev_iconst 0 d_Mo_hear_24 (by decide) ?_
  exact ev_iret d_Mo_hear_25 rfl rfl hq
theorem t_Mo_hear_26 {d : Nat} {st : List Value} {a0 : Nat} {x1 : Int32} {o2 : Option Value} {o3 : Option Value} {o4 : Option Value} {o5 : Option Value} {o6 : Option Value} {o7 : Option Value} {o8 : Option Value} {o9 : Option Value} {fs2 : List Value} {w : qk_W} {nc ns : Nat} {Q : Option Value ⊕ Nat → qk_W → Nat → Nat → Prop}  (hw1 : wo w a0 11 fs2) (hk : 24 < fs2.length) (k : Ev d m_Mo_hear 34 [some (.ref a0), some (.int x1), o2, o3, o4, o5, o6, o7, o8, o9] st (qk_set w a0 (.inr (11, fs2.set 24 (.int (qi_rem x1 64))))) nc ns Q) : Ev d m_Mo_hear 26 [some (.ref a0), some (.int x1), o2, o3, o4, o5, o6, o7, o8, o9] st w nc ns Q := by
  refine ev_aload_n d_Mo_hear_26 rfl rfl ?_
  refine ev_iload_n d_Mo_hear_27 rfl ?_
  refine ev_bipush 64 d_Mo_hear_28 (by decide) ?_
  refine ev_irem d_Mo_hear_30 (by decide) ?_
  exact ev_putf d_Mo_hear_31 fl_Mo_112 rfl hw1.1 hw1.2 hk (qk_fitI _) k
theorem t_Mo_hear_34 {d : Nat} {st : List Value} {a0 : Nat} {o1 : Option Value} {o2 : Option Value} {o3 : Option Value} {o4 : Option Value} {o5 : Option Value} {o6 : Option Value} {o7 : Option Value} {o8 : Option Value} {o9 : Option Value} {fs2 : List Value} {c4 : Nat} {n8 : Int32} {n10 : Nat} {f11 : Nat → Int32} {w : qk_W} {nc ns : Nat} {Q : Option Value ⊕ Nat → qk_W → Nat → Nat → Prop}  (hw1 : wo w a0 11 fs2) (hf3 : fs2[15]? = some (.ref c4)) (hf7 : fs2[24]? = some (.int n8)) (ha9 : wi w c4 n10 f11) (hi12 : vp_in n8 n10) (kt : ¬ (f11 n8.toNatClampNeg) = (16 : Int32) → Ev d m_Mo_hear 61 [some (.ref a0), o1, o2, o3, o4, o5, o6, o7, o8, o9] st w nc ns Q) (kf : (f11 n8.toNatClampNeg) = (16 : Int32) → Ev d m_Mo_hear 48 [some (.ref a0), o1, o2, o3, o4, o5, o6, o7, o8, o9] st w nc ns Q) : Ev d m_Mo_hear 34 [some (.ref a0), o1, o2, o3, o4, o5, o6, o7, o8, o9] st w nc ns Q := by
  refine ev_aload_n d_Mo_hear_34 rfl rfl ?_
  refine ev_getf d_Mo_hear_35 fl_Mo_51 hw1.1 hw1.2 hf3 ?_
  refine ev_aload_n d_Mo_hear_38 rfl rfl ?_
  refine ev_getf d_Mo_hear_39 fl_Mo_112 hw1.1 hw1.2 hf7 ?_
  refine ev_iald d_Mo_hear_42 ha9 hi12 ?_
  refine ev_bipush 16 d_Mo_hear_43 (by decide) ?_
  exact ev_icmp_ne 61 d_Mo_hear_45 (by decide) kt kf
theorem t_Mo_hear_48 {d : Nat} {st : List Value} {a0 : Nat} {o1 : Option Value} {o2 : Option Value} {o3 : Option Value} {o4 : Option Value} {o5 : Option Value} {o6 : Option Value} {o7 : Option Value} {o8 : Option Value} {o9 : Option Value} {fsb : List Value} {w : qk_W} {nc ns : Nat} {Q : Option Value ⊕ Nat → qk_W → Nat → Nat → Prop}  (hb : wo w a0 11 fsb) (h8 : (st.map fun v => Value.category v).sum ≤ 8) (k : Ev d m_Mo_isChecked 0 [some (.ref a0), some (.int 16)] [] w nc ns (fun r w1 nc1 ns1 => match r with | .inl v => Ev (d + 1) m_Mo_hear 54 [some (.ref a0), o1, o2, o3, o4, o5, o6, o7, o8, o9] (v.toList ++ st) w1 nc1 ns1 Q | .inr x => Q (.inr x) w1 nc1 ns1)) : Ev (d + 1) m_Mo_hear 48 [some (.ref a0), o1, o2, o3, o4, o5, o6, o7, o8, o9] st w nc ns Q := by
  refine ev_aload_n d_Mo_hear_48 rfl rfl ?_
  refine ev_bipush 16 d_Mo_hear_49 (by decide) ?_
  exact ev_call (M' := m_Mo_isChecked) (As := [.ref a0, .int 16]) (st := st) d_Mo_hear_51 i_Mo_isChecked (fun h => absurd h (by decide +kernel)) cw_Mo_165 rfl rfl ⟨hb.1, 11, _, _, hb.2, rfl, rfl⟩ rfl (Nat.le_of_ble_eq_true rfl) h8 k
theorem t_Mo_hear_54 {d : Nat} {st : List Value} {o0 : Option Value} {o1 : Option Value} {o2 : Option Value} {o3 : Option Value} {o4 : Option Value} {o5 : Option Value} {o6 : Option Value} {o7 : Option Value} {o8 : Option Value} {o9 : Option Value} {y0 : Int32} {w : qk_W} {nc ns : Nat} {Q : Option Value ⊕ Nat → qk_W → Nat → Nat → Prop}   (kt : y0 = 0 → Ev d m_Mo_hear 61 [o0, o1, o2, o3, o4, o5, o6, o7, o8, o9] st w nc ns Q) (kf : ¬ (y0 = 0) → Ev d m_Mo_hear 57 [o0, o1, o2, o3, o4, o5, o6, o7, o8, o9] st w nc ns Q) : Ev d m_Mo_hear 54 [o0, o1, o2, o3, o4, o5, o6, o7, o8, o9] (.int y0 :: st) w nc ns Q := by
  exact ev_if_eq 61 d_Mo_hear_54 (by decide) kt kf
theorem t_Mo_hear_57 {d : Nat} {st : List Value} {a0 : Nat} {o1 : Option Value} {o2 : Option Value} {o3 : Option Value} {o4 : Option Value} {o5 : Option Value} {o6 : Option Value} {o7 : Option Value} {o8 : Option Value} {o9 : Option Value} {fs3 : List Value} {w : qk_W} {nc ns : Nat} {Q : Option Value ⊕ Nat → qk_W → Nat → Nat → Prop}  (hc1 : qk_c2 [some (.ref a0), o1, o2, o3, o4, o5, o6, o7, o8, o9] 2 = true) (hw2 : wo w a0 11 fs3) (hk : 25 < fs3.length) (k : Ev d m_Mo_hear 68 [some (.ref a0), o1, some (.int 1), o3, o4, o5, o6, o7, o8, o9] st (qk_set w a0 (.inr (11, fs3.set 25 (.int 0)))) nc ns Q) : Ev d m_Mo_hear 57 [some (.ref a0), o1, o2, o3, o4, o5, o6, o7, o8, o9] st w nc ns Q := by
  refine ev_iconst 1 d_Mo_hear_57 (by decide) ?_
  refine ev_goto 62 d_Mo_hear_58 (by decide) ?_
  refine ev_istore_n d_Mo_hear_62 (by decide) hc1 ?_
  refine ev_aload_n d_Mo_hear_63 rfl rfl ?_
  refine ev_iconst 0 d_Mo_hear_64 (by decide) ?_
  exact ev_putf d_Mo_hear_65 fl_Mo_115 rfl hw2.1 hw2.2 hk (qk_fitI _) k
theorem t_Mo_hear_61 {d : Nat} {st : List Value} {a0 : Nat} {o1 : Option Value} {o2 : Option Value} {o3 : Option Value} {o4 : Option Value} {o5 : Option Value} {o6 : Option Value} {o7 : Option Value} {o8 : Option Value} {o9 : Option Value} {fs3 : List Value} {w : qk_W} {nc ns : Nat} {Q : Option Value ⊕ Nat → qk_W → Nat → Nat → Prop}  (hc1 : qk_c2 [some (.ref a0), o1, o2, o3, o4, o5, o6, o7, o8, o9] 2 = true) (hw2 : wo w a0 11 fs3) (hk : 25 < fs3.length) (k : Ev d m_Mo_hear 68 [some (.ref a0), o1, some (.int 0), o3, o4, o5, o6, o7, o8, o9] st (qk_set w a0 (.inr (11, fs3.set 25 (.int 0)))) nc ns Q) : Ev d m_Mo_hear 61 [some (.ref a0), o1, o2, o3, o4, o5, o6, o7, o8, o9] st w nc ns Q := by
  refine ev_iconst 0 d_Mo_hear_61 (by decide) ?_
  refine ev_istore_n d_Mo_hear_62 (by decide) hc1 ?_
  refine ev_aload_n d_Mo_hear_63 rfl rfl ?_
  refine ev_iconst 0 d_Mo_hear_64 (by decide) ?_
  exact ev_putf d_Mo_hear_65 fl_Mo_115 rfl hw2.1 hw2.2 hk (qk_fitI _) k
theorem t_Mo_hear_68 {d : Nat} {st : List Value} {a0 : Nat} {o1 : Option Value} {o2 : Option Value} {o3 : Option Value} {o4 : Option Value} {o5 : Option Value} {o6 : Option Value} {o7 : Option Value} {o8 : Option Value} {o9 : Option Value} {fsb : List Value} {w : qk_W} {nc ns : Nat} {Q : Option Value ⊕ Nat → qk_W → Nat → Nat → Prop}  (hb : wo w a0 11 fsb) (h8 : (st.map fun v => Value.category v).sum ≤ 8) (k : Ev d m_Mo_get 0 [some (.ref a0), some (.int 8), none, none, none] [] w nc ns (fun r w1 nc1 ns1 => match r with | .inl v => Ev (d + 1) m_Mo_hear 74 [some (.ref a0), o1, o2, o3, o4, o5, o6, o7, o8, o9] (v.toList ++ st) w1 nc1 ns1 Q | .inr x => Q (.inr x) w1 nc1 ns1)) : Ev (d + 1) m_Mo_hear 68 [some (.ref a0), o1, o2, o3, o4, o5, o6, o7, o8, o9] st w nc ns Q := by
  refine ev_aload_n d_Mo_hear_68 rfl rfl ?_
  refine ev_bipush 8 d_Mo_hear_69 (by decide) ?_
  exact ev_call (M' := m_Mo_get) (As := [.ref a0, .int 8]) (st := st) d_Mo_hear_71 i_Mo_get (fun h => absurd h (by decide +kernel)) cw_Mo_161 rfl rfl ⟨hb.1, 11, _, _, hb.2, rfl, rfl⟩ rfl (Nat.le_of_ble_eq_true rfl) h8 k
theorem t_Mo_hear_74 {d : Nat} {st : List Value} {a0 : Nat} {o1 : Option Value} {o2 : Option Value} {o3 : Option Value} {o4 : Option Value} {o5 : Option Value} {o6 : Option Value} {o7 : Option Value} {o8 : Option Value} {o9 : Option Value} {y0 : Int64} {fsb : List Value} {w : qk_W} {nc ns : Nat} {Q : Option Value ⊕ Nat → qk_W → Nat → Nat → Prop}  (hc1 : qk_c2 [some (.ref a0), o1, o2, o3, o4, o5, o6, o7, o8, o9] 3 = true) (hb : wo w a0 11 fsb) (h8 : (st.map fun v => Value.category v).sum ≤ 8) (k : Ev d m_Mo_get 0 [some (.ref a0), some (.int 24), none, none, none] [] w nc ns (fun r w1 nc1 ns1 => match r with | .inl v => Ev (d + 1) m_Mo_hear 82 [some (.ref a0), o1, o2, some (.int (Int64.toInt32 y0)), o4, o5, o6, o7, o8, o9] (v.toList ++ st) w1 nc1 ns1 Q | .inr x => Q (.inr x) w1 nc1 ns1)) : Ev (d + 1) m_Mo_hear 74 [some (.ref a0), o1, o2, o3, o4, o5, o6, o7, o8, o9] (.long y0 :: st) w nc ns Q := by
  refine ev_l2i d_Mo_hear_74 ?_
  refine ev_istore_n d_Mo_hear_75 (by decide) hc1 ?_
  refine ev_aload_n d_Mo_hear_76 rfl rfl ?_
  refine ev_bipush 24 d_Mo_hear_77 (by decide) ?_
  exact ev_call (M' := m_Mo_get) (As := [.ref a0, .int 24]) (st := st) d_Mo_hear_79 i_Mo_get (fun h => absurd h (by decide +kernel)) cw_Mo_161 rfl rfl ⟨hb.1, 11, _, _, hb.2, rfl, rfl⟩ rfl (Nat.le_of_ble_eq_true rfl) h8 k
theorem t_Mo_hear_82 {d : Nat} {st : List Value} {o0 : Option Value} {o1 : Option Value} {o2 : Option Value} {o3 : Option Value} {o4 : Option Value} {o5 : Option Value} {o6 : Option Value} {o7 : Option Value} {o8 : Option Value} {o9 : Option Value} {y0 : Int64} {w : qk_W} {nc ns : Nat} {Q : Option Value ⊕ Nat → qk_W → Nat → Nat → Prop}   (kt : ¬ (lg_cmp y0 0) = 0 → Ev d m_Mo_hear 100 [o0, o1, o2, o3, o4, o5, o6, o7, o8, o9] st w nc ns Q) (kf : (lg_cmp y0 0) = 0 → Ev d m_Mo_hear 87 [o0, o1, o2, o3, o4, o5, o6, o7, o8, o9] st w nc ns Q) : Ev d m_Mo_hear 82 [o0, o1, o2, o3, o4, o5, o6, o7, o8, o9] (.long y0 :: st) w nc ns Q := by
  refine ev_lconst 0 d_Mo_hear_82 (by decide) ?_
  refine ev_lcmp d_Mo_hear_83 ?_
  exact ev_if_ne 100 d_Mo_hear_84 (by decide) kt kf
theorem t_Mo_hear_87 {d : Nat} {st : List Value} {o0 : Option Value} {o1 : Option Value} {x2 : Int32} {o3 : Option Value} {o4 : Option Value} {o5 : Option Value} {o6 : Option Value} {o7 : Option Value} {o8 : Option Value} {o9 : Option Value} {w : qk_W} {nc ns : Nat} {Q : Option Value ⊕ Nat → qk_W → Nat → Nat → Prop}   (kt : x2 = 0 → Ev d m_Mo_hear 100 [o0, o1, some (.int x2), o3, o4, o5, o6, o7, o8, o9] st w nc ns Q) (kf : ¬ (x2 = 0) → Ev d m_Mo_hear 91 [o0, o1, some (.int x2), o3, o4, o5, o6, o7, o8, o9] st w nc ns Q) : Ev d m_Mo_hear 87 [o0, o1, some (.int x2), o3, o4, o5, o6, o7, o8, o9] st w nc ns Q := by
  refine ev_iload_n d_Mo_hear_87 rfl ?_
  exact ev_if_eq 100 d_Mo_hear_88 (by decide) kt kf
theorem t_Mo_hear_91 {d : Nat} {st : List Value} {o0 : Option Value} {o1 : Option Value} {o2 : Option Value} {x3 : Int32} {o4 : Option Value} {o5 : Option Value} {o6 : Option Value} {o7 : Option Value} {o8 : Option Value} {o9 : Option Value} {w : qk_W} {nc ns : Nat} {Q : Option Value ⊕ Nat → qk_W → Nat → Nat → Prop}   (kt : (4 : Int32) ≤ x3 → Ev d m_Mo_hear 100 [o0, o1, o2, some (.int x3), o4, o5, o6, o7, o8, o9] st w nc ns Q) (kf : ¬ ((4 : Int32) ≤ x3) → Ev d m_Mo_hear 96 [o0, o1, o2, some (.int x3), o4, o5, o6, o7, o8, o9] st w nc ns Q) : Ev d m_Mo_hear 91 [o0, o1, o2, some (.int x3), o4, o5, o6, o7, o8, o9] st w nc ns Q := by
  refine ev_iload_n d_Mo_hear_91 rfl ?_
  refine ev_iconst 4 d_Mo_hear_92 (by decide) ?_
  exact ev_icmp_ge 100 d_Mo_hear_93 (by decide) kt kf
theorem t_Mo_hear_96 {d : Nat} {st : List Value} {a0 : Nat} {o1 : Option Value} {o2 : Option Value} {o3 : Option Value} {o4 : Option Value} {o5 : Option Value} {o6 : Option Value} {o7 : Option Value} {o8 : Option Value} {o9 : Option Value} {fsb : List Value} {w : qk_W} {nc ns : Nat} {Q : Option Value ⊕ Nat → qk_W → Nat → Nat → Prop}  (hc1 : qk_c2 [some (.ref a0), o1, o2, o3, o4, o5, o6, o7, o8, o9] 2 = true) (hb : wo w a0 11 fsb) (h8 : (st.map fun v => Value.category v).sum ≤ 8) (k : Ev d m_Mo_get 0 [some (.ref a0), some (.int 32), none, none, none] [] w nc ns (fun r w1 nc1 ns1 => match r with | .inl v => Ev (d + 1) m_Mo_hear 108 [some (.ref a0), o1, some (.int 1), o3, o4, o5, o6, o7, o8, o9] (v.toList ++ st) w1 nc1 ns1 Q | .inr x => Q (.inr x) w1 nc1 ns1)) : Ev (d + 1) m_Mo_hear 96 [some (.ref a0), o1, o2, o3, o4, o5, o6, o7, o8, o9] st w nc ns Q := by
  refine ev_iconst 1 d_Mo_hear_96 (by decide) ?_
  refine ev_goto 101 d_Mo_hear_97 (by decide) ?_
  refine ev_istore_n d_Mo_hear_101 (by decide) hc1 ?_
  refine ev_aload_n d_Mo_hear_102 rfl rfl ?_
  refine ev_bipush 32 d_Mo_hear_103 (by decide) ?_
  exact ev_call (M' := m_Mo_get) (As := [.ref a0, .int 32]) (st := st) d_Mo_hear_105 i_Mo_get (fun h => absurd h (by decide +kernel)) cw_Mo_161 rfl rfl ⟨hb.1, 11, _, _, hb.2, rfl, rfl⟩ rfl (Nat.le_of_ble_eq_true rfl) h8 k
theorem t_Mo_hear_100 {d : Nat} {st : List Value} {a0 : Nat} {o1 : Option Value} {o2 : Option Value} {o3 : Option Value} {o4 : Option Value} {o5 : Option Value} {o6 : Option Value} {o7 : Option Value} {o8 : Option Value} {o9 : Option Value} {fsb : List Value} {w : qk_W} {nc ns : Nat} {Q : Option Value ⊕ Nat → qk_W → Nat → Nat → Prop}  (hc1 : qk_c2 [some (.ref a0), o1, o2, o3, o4, o5, o6, o7, o8, o9] 2 = true) (hb : wo w a0 11 fsb) (h8 : (st.map fun v => Value.category v).sum ≤ 8) (k : Ev d m_Mo_get 0 [some (.ref a0), some (.int 32), none, none, none] [] w nc ns (fun r w1 nc1 ns1 => match r with | .inl v => Ev (d + 1) m_Mo_hear 108 [some (.ref a0), o1, some (.int 0), o3, o4, o5, o6, o7, o8, o9] (v.toList ++ st) w1 nc1 ns1 Q | .inr x => Q (.inr x) w1 nc1 ns1)) : Ev (d + 1) m_Mo_hear 100 [some (.ref a0), o1, o2, o3, o4, o5, o6, o7, o8, o9] st w nc ns Q := by
  refine ev_iconst 0 d_Mo_hear_100 (by decide) ?_
  refine ev_istore_n d_Mo_hear_101 (by decide) hc1 ?_
  refine ev_aload_n d_Mo_hear_102 rfl rfl ?_
  refine ev_bipush 32 d_Mo_hear_103 (by decide) ?_
  exact ev_call (M' := m_Mo_get) (As := [.ref a0, .int 32]) (st := st) d_Mo_hear_105 i_Mo_get (fun h => absurd h (by decide +kernel)) cw_Mo_161 rfl rfl ⟨hb.1, 11, _, _, hb.2, rfl, rfl⟩ rfl (Nat.le_of_ble_eq_true rfl) h8 k
theorem t_Mo_hear_108 {d : Nat} {st : List Value} {a0 : Nat} {o1 : Option Value} {o2 : Option Value} {o3 : Option Value} {o4 : Option Value} {o5 : Option Value} {o6 : Option Value} {o7 : Option Value} {o8 : Option Value} {o9 : Option Value} {y0 : Int64} {fsb : List Value} {w : qk_W} {nc ns : Nat} {Q : Option Value ⊕ Nat → qk_W → Nat → Nat → Prop}  (hc1 : qk_c2 [some (.ref a0), o1, o2, o3, o4, o5, o6, o7, o8, o9] 4 = true) (hb : wo w a0 11 fsb) (h8 : (st.map fun v => Value.category v).sum ≤ 8) (k : Ev d m_Mo_get 0 [some (.ref a0), some (.int 32), none, none, none] [] w nc ns (fun r w1 nc1 ns1 => match r with | .inl v => Ev (d + 1) m_Mo_hear 116 [some (.ref a0), o1, o2, o3, some (.long y0), none, o6, o7, o8, o9] (v.toList ++ st) w1 nc1 ns1 Q | .inr x => Q (.inr x) w1 nc1 ns1)) : Ev (d + 1) m_Mo_hear 108 [some (.ref a0), o1, o2, o3, o4, o5, o6, o7, o8, o9] (.long y0 :: st) w nc ns Q := by
  refine ev_lstore d_Mo_hear_108 (by decide) hc1 ?_
  refine ev_aload_n d_Mo_hear_110 rfl rfl ?_
  refine ev_bipush 32 d_Mo_hear_111 (by decide) ?_
  exact ev_call (M' := m_Mo_get) (As := [.ref a0, .int 32]) (st := st) d_Mo_hear_113 i_Mo_get (fun h => absurd h (by decide +kernel)) cw_Mo_161 rfl rfl ⟨hb.1, 11, _, _, hb.2, rfl, rfl⟩ rfl (Nat.le_of_ble_eq_true rfl) h8 k
theorem t_Mo_hear_116 {d : Nat} {st : List Value} {o0 : Option Value} {o1 : Option Value} {x2 : Int32} {o3 : Option Value} {o4 : Option Value} {o5 : Option Value} {o6 : Option Value} {o7 : Option Value} {o8 : Option Value} {o9 : Option Value} {y0 : Int64} {w : qk_W} {nc ns : Nat} {Q : Option Value ⊕ Nat → qk_W → Nat → Nat → Prop}  (hc1 : qk_c2 [o0, o1, some (.int x2), o3, o4, o5, o6, o7, o8, o9] 6 = true) (kt : x2 = 0 → Ev d m_Mo_hear 130 [o0, o1, some (.int x2), o3, o4, o5, some (.long y0), none, o8, o9] st w nc ns Q) (kf : ¬ (x2 = 0) → Ev d m_Mo_hear 122 [o0, o1, some (.int x2), o3, o4, o5, some (.long y0), none, o8, o9] st w nc ns Q) : Ev d m_Mo_hear 116 [o0, o1, some (.int x2), o3, o4, o5, o6, o7, o8, o9] (.long y0 :: st) w nc ns Q := by
  refine ev_lstore d_Mo_hear_116 (by decide) hc1 ?_
  refine ev_iload_n d_Mo_hear_118 rfl ?_
  exact ev_if_eq 130 d_Mo_hear_119 (by decide) kt kf
theorem t_Mo_hear_122 {d : Nat} {st : List Value} {o0 : Option Value} {o1 : Option Value} {o2 : Option Value} {o3 : Option Value} {x4 : Int64} {o5 : Option Value} {x6 : Int64} {o7 : Option Value} {o8 : Option Value} {o9 : Option Value} {w : qk_W} {nc ns : Nat} {Q : Option Value ⊕ Nat → qk_W → Nat → Nat → Prop}   (kt : (lg_cmp x4 x6) ≤ 0 → Ev d m_Mo_hear 142 [o0, o1, o2, o3, some (.long x4), o5, some (.long x6), o7, o8, o9] st w nc ns Q) (kf : ¬ ((lg_cmp x4 x6) ≤ 0) → Ev d m_Mo_hear 130 [o0, o1, o2, o3, some (.long x4), o5, some (.long x6), o7, o8, o9] st w nc ns Q) : Ev d m_Mo_hear 122 [o0, o1, o2, o3, some (.long x4), o5, some (.long x6), o7, o8, o9] st w nc ns Q := by
  refine ev_lload d_Mo_hear_122 rfl ?_
  refine ev_lload d_Mo_hear_124 rfl ?_
  refine ev_lcmp d_Mo_hear_126 ?_
  exact ev_if_le 142 d_Mo_hear_127 (by decide) kt kf
theorem t_Mo_hear_130 {d : Nat} {st : List Value} {a0 : Nat} {o1 : Option Value} {o2 : Option Value} {o3 : Option Value} {o4 : Option Value} {o5 : Option Value} {o6 : Option Value} {o7 : Option Value} {o8 : Option Value} {o9 : Option Value} {fs2 : List Value} {n4 : Int32} {w : qk_W} {nc ns : Nat} {Q : Option Value ⊕ Nat → qk_W → Nat → Nat → Prop}  (hw1 : wo w a0 11 fs2) (hf3 : fs2[23]? = some (.int n4)) (hk : 23 < fs2.length) (k : Ev d m_Mo_hear 140 [some (.ref a0), o1, o2, o3, o4, o5, o6, o7, o8, o9] st (qk_set w a0 (.inr (11, fs2.set 23 (.int (n4 + 1))))) nc ns Q) : Ev d m_Mo_hear 130 [some (.ref a0), o1, o2, o3, o4, o5, o6, o7, o8, o9] st w nc ns Q := by
  refine ev_aload_n d_Mo_hear_130 rfl rfl ?_
  refine ev_dup d_Mo_hear_131 rfl ?_
  refine ev_getf d_Mo_hear_132 fl_Mo_168 hw1.1 hw1.2 hf3 ?_
  refine ev_iconst 1 d_Mo_hear_135 (by decide) ?_
  refine ev_iadd d_Mo_hear_136 ?_
  exact ev_putf d_Mo_hear_137 fl_Mo_168 rfl hw1.1 hw1.2 hk (qk_fitI _) k
theorem t_Mo_hear_140 {d : Nat} {o0 : Option Value} {o1 : Option Value} {o2 : Option Value} {o3 : Option Value} {o4 : Option Value} {o5 : Option Value} {o6 : Option Value} {o7 : Option Value} {o8 : Option Value} {o9 : Option Value} {w : qk_W} {nc ns : Nat} {Q : Option Value ⊕ Nat → qk_W → Nat → Nat → Prop}   (hq : Q (.inl (some (.int (-1)))) w nc ns) : Ev d m_Mo_hear 140 [o0, o1, o2, o3, o4, o5, o6, o7, o8, o9] [] w nc ns Q := by
  refine ev_iconst (-1) d_Mo_hear_140 (by decide) ?_
  exact ev_iret d_Mo_hear_141 rfl rfl hq
theorem t_Mo_hear_142 {d : Nat} {st : List Value} {o0 : Option Value} {o1 : Option Value} {o2 : Option Value} {o3 : Option Value} {o4 : Option Value} {o5 : Option Value} {o6 : Option Value} {o7 : Option Value} {o8 : Option Value} {o9 : Option Value} {w : qk_W} {nc ns : Nat} {Q : Option Value ⊕ Nat → qk_W → Nat → Nat → Prop}  (hc1 : qk_c2 [o0, o1, o2, o3, o4, o5, o6, o7, o8, o9] 8 = true) (k : Ev d m_Mo_hear 148 [o0, o1, o2, o3, o4, o5, o6, o7, some (.int 0), some (.int 0)] st w nc ns Q) : Ev d m_Mo_hear 142 [o0, o1, o2, o3, o4, o5, o6, o7, o8, o9] st w nc ns Q := by
  refine ev_iconst 0 d_Mo_hear_142 (by decide) ?_
  refine ev_istore d_Mo_hear_143 (by decide) hc1 ?_
  refine ev_iconst 0 d_Mo_hear_145 (by decide) ?_
  refine ev_istore d_Mo_hear_146 (by decide) rfl ?_
  exact k
theorem t_Mo_hear_148 {d : Nat} {st : List Value} {a0 : Nat} {o1 : Option Value} {o2 : Option Value} {x3 : Int32} {o4 : Option Value} {o5 : Option Value} {o6 : Option Value} {o7 : Option Value} {o8 : Option Value} {x9 : Int32} {fs2 : List Value} {c4 : Nat} {n6 : Nat} {f7 : Nat → Int32} {w : qk_W} {nc ns : Nat} {Q : Option Value ⊕ Nat → qk_W → Nat → Nat → Prop}  (hw1 : wo w a0 11 fs2) (hf3 : fs2[3]? = some (.ref c4)) (ha5 : wi w c4 n6 f7) (hi8 : vp_in x3 n6) (kt : (f7 x3.toNatClampNeg) ≤ x9 → Ev d m_Mo_hear 214 [some (.ref a0), o1, o2, some (.int x3), o4, o5, o6, o7, o8, some (.int x9)] st w nc ns Q) (kf : ¬ ((f7 x3.toNatClampNeg) ≤ x9) → Ev d m_Mo_hear 159 [some (.ref a0), o1, o2, some (.int x3), o4, o5, o6, o7, o8, some (.int x9)] st w nc ns Q) : Ev d m_Mo_hear 148 [some (.ref a0), o1, o2, some (.int x3), o4, o5, o6, o7, o8, some (.int x9)] st w nc ns Q := by
  refine ev_iload d_Mo_hear_148 rfl ?_
  refine ev_aload_n d_Mo_hear_150 rfl rfl ?_
  refine ev_getf d_Mo_hear_151 fl_Mo_17 hw1.1 hw1.2 hf3 ?_
  refine ev_iload_n d_Mo_hear_154 rfl ?_
  refine ev_iald d_Mo_hear_155 ha5 hi8 ?_
  exact ev_icmp_ge 214 d_Mo_hear_156 (by decide) kt kf
theorem t_Mo_hear_159 {d : Nat} {st : List Value} {o0 : Option Value} {o1 : Option Value} {o2 : Option Value} {o3 : Option Value} {x4 : Int64} {o5 : Option Value} {o6 : Option Value} {o7 : Option Value} {o8 : Option Value} {x9 : Int32} {w : qk_W} {nc ns : Nat} {Q : Option Value ⊕ Nat → qk_W → Nat → Nat → Prop}   (kt : (lg_cmp (Int32.toInt64 x9) x4) < 0 → Ev d m_Mo_hear 208 [o0, o1, o2, o3, some (.long x4), o5, o6, o7, o8, some (.int x9)] st w nc ns Q) (kf : ¬ ((lg_cmp (Int32.toInt64 x9) x4) < 0) → Ev d m_Mo_hear 168 [o0, o1, o2, o3, some (.long x4), o5, o6, o7, o8, some (.int x9)] st w nc ns Q) : Ev d m_Mo_hear 159 [o0, o1, o2, o3, some (.long x4), o5, o6, o7, o8, some (.int x9)] st w nc ns Q := by
  refine ev_iload d_Mo_hear_159 rfl ?_
  refine ev_i2l d_Mo_hear_161 ?_
  refine ev_lload d_Mo_hear_162 rfl ?_
  refine ev_lcmp d_Mo_hear_164 ?_
  exact ev_if_lt 208 d_Mo_hear_165 (by decide) kt kf
theorem t_Mo_hear_168 {d : Nat} {st : List Value} {o0 : Option Value} {o1 : Option Value} {o2 : Option Value} {o3 : Option Value} {o4 : Option Value} {o5 : Option Value} {x6 : Int64} {o7 : Option Value} {o8 : Option Value} {x9 : Int32} {w : qk_W} {nc ns : Nat} {Q : Option Value ⊕ Nat → qk_W → Nat → Nat → Prop}   (kt : 0 < (lg_cmp (Int32.toInt64 x9) x6) → Ev d m_Mo_hear 208 [o0, o1, o2, o3, o4, o5, some (.long x6), o7, o8, some (.int x9)] st w nc ns Q) (kf : ¬ (0 < (lg_cmp (Int32.toInt64 x9) x6)) → Ev d m_Mo_hear 177 [o0, o1, o2, o3, o4, o5, some (.long x6), o7, o8, some (.int x9)] st w nc ns Q) : Ev d m_Mo_hear 168 [o0, o1, o2, o3, o4, o5, some (.long x6), o7, o8, some (.int x9)] st w nc ns Q := by
  refine ev_iload d_Mo_hear_168 rfl ?_
  refine ev_i2l d_Mo_hear_170 ?_
  refine ev_lload d_Mo_hear_171 rfl ?_
  refine ev_lcmp d_Mo_hear_173 ?_
  exact ev_if_gt 208 d_Mo_hear_174 (by decide) kt kf
theorem t_Mo_hear_177 {d : Nat} {st : List Value} {a0 : Nat} {o1 : Option Value} {o2 : Option Value} {x3 : Int32} {o4 : Option Value} {o5 : Option Value} {o6 : Option Value} {o7 : Option Value} {o8 : Option Value} {x9 : Int32} {fs2 : List Value} {c4 : Nat} {n6 : Nat} {f7 : Nat → Int32} {w : qk_W} {nc ns : Nat} {Q : Option Value ⊕ Nat → qk_W → Nat → Nat → Prop}  (hw1 : wo w a0 11 fs2) (hf3 : fs2[12]? = some (.ref c4)) (ha5 : wz w c4 n6 f7) (hi8 : vp_in ((x3 * 32768) + x9) n6) (kt : ¬ (f7 ((x3 * 32768) + x9).toNatClampNeg) = 0 → Ev d m_Mo_hear 208 [some (.ref a0), o1, o2, some (.int x3), o4, o5, o6, o7, o8, some (.int x9)] st w nc ns Q) (kf : (f7 ((x3 * 32768) + x9).toNatClampNeg) = 0 → Ev d m_Mo_hear 192 [some (.ref a0), o1, o2, some (.int x3), o4, o5, o6, o7, o8, some (.int x9)] st w nc ns Q) : Ev d m_Mo_hear 177 [some (.ref a0), o1, o2, some (.int x3), o4, o5, o6, o7, o8, some (.int x9)] st w nc ns Q := by
  refine ev_aload_n d_Mo_hear_177 rfl rfl ?_
  refine ev_getf d_Mo_hear_178 fl_Mo_43 hw1.1 hw1.2 hf3 ?_
  refine ev_iload_n d_Mo_hear_181 rfl ?_
  refine ev_ldc 32768 d_Mo_hear_182 lc_Mo_46 ?_
  refine ev_imul d_Mo_hear_184 ?_
  refine ev_iload d_Mo_hear_185 rfl ?_
  refine ev_iadd d_Mo_hear_187 ?_
  refine ev_zald d_Mo_hear_188 ha5.1 ha5.2 hi8 ?_
  exact ev_if_ne 208 d_Mo_hear_189 (by decide) kt kf
theorem t_Mo_hear_192 {d : Nat} {st : List Value} {a0 : Nat} {o1 : Option Value} {o2 : Option Value} {x3 : Int32} {o4 : Option Value} {o5 : Option Value} {o6 : Option Value} {o7 : Option Value} {o8 : Option Value} {x9 : Int32} {fs2 : List Value} {c4 : Nat} {n6 : Nat} {f7 : Nat → Int32} {w : qk_W} {nc ns : Nat} {Q : Option Value ⊕ Nat → qk_W → Nat → Nat → Prop}  (hw1 : wo w a0 11 fs2) (hf3 : fs2[12]? = some (.ref c4)) (ha5 : wz w c4 n6 f7) (hi : vp_in ((x3 * 32768) + x9) n6) (k : Ev d m_Mo_hear 205 [some (.ref a0), o1, o2, some (.int x3), o4, o5, o6, o7, o8, some (.int x9)] st (qk_set w c4 (.inl (.boolean, n6, .inl (upd f7 ((x3 * 32768) + x9).toNatClampNeg 1)))) nc ns Q) : Ev d m_Mo_hear 192 [some (.ref a0), o1, o2, some (.int x3), o4, o5, o6, o7, o8, some (.int x9)] st w nc ns Q := by
  refine ev_aload_n d_Mo_hear_192 rfl rfl ?_
  refine ev_getf d_Mo_hear_193 fl_Mo_43 hw1.1 hw1.2 hf3 ?_
  refine ev_iload_n d_Mo_hear_196 rfl ?_
  refine ev_ldc 32768 d_Mo_hear_197 lc_Mo_46 ?_
  refine ev_imul d_Mo_hear_199 ?_
  refine ev_iload d_Mo_hear_200 rfl ?_
  refine ev_iadd d_Mo_hear_202 ?_
  refine ev_iconst 1 d_Mo_hear_203 (by decide) ?_
  exact ev_zast d_Mo_hear_204 ha5.1 ha5.2 hi rfl k
theorem t_Mo_hear_205 {d : Nat} {st : List Value} {o0 : Option Value} {o1 : Option Value} {o2 : Option Value} {o3 : Option Value} {o4 : Option Value} {o5 : Option Value} {o6 : Option Value} {o7 : Option Value} {x8 : Int32} {x9 : Int32} {w : qk_W} {nc ns : Nat} {Q : Option Value ⊕ Nat → qk_W → Nat → Nat → Prop}  (hc1 : qk_c2 [o0, o1, o2, o3, o4, o5, o6, o7, some (.int x8), some (.int x9)] 8 = true) (k : Ev d m_Mo_hear 148 [o0, o1, o2, o3, o4, o5, o6, o7, some (.int (x8 + 1)), some (.int (x9 + 1))] st w nc ns Q) : Ev d m_Mo_hear 205 [o0, o1, o2, o3, o4, o5, o6, o7, some (.int x8), some (.int x9)] st w nc ns Q := by
  refine ev_iinc 1 d_Mo_hear_205 (by decide) rfl (by decide) hc1 ?_
  refine ev_iinc 1 d_Mo_hear_208 (by decide) rfl (by decide) rfl ?_
  refine ev_goto 148 d_Mo_hear_211 (by decide) ?_
  exact k
theorem t_Mo_hear_208 {d : Nat} {st : List Value} {o0 : Option Value} {o1 : Option Value} {o2 : Option Value} {o3 : Option Value} {o4 : Option Value} {o5 : Option Value} {o6 : Option Value} {o7 : Option Value} {o8 : Option Value} {x9 : Int32} {w : qk_W} {nc ns : Nat} {Q : Option Value ⊕ Nat → qk_W → Nat → Nat → Prop}  (hc1 : qk_c2 [o0, o1, o2, o3, o4, o5, o6, o7, o8, some (.int x9)] 9 = true) (k : Ev d m_Mo_hear 148 [o0, o1, o2, o3, o4, o5, o6, o7, o8, some (.int (x9 + 1))] st w nc ns Q) : Ev d m_Mo_hear 208 [o0, o1, o2, o3, o4, o5, o6, o7, o8, some (.int x9)] st w nc ns Q := by
  refine ev_iinc 1 d_Mo_hear_208 (by decide) rfl (by decide) hc1 ?_
  refine ev_goto 148 d_Mo_hear_211 (by decide) ?_
  exact k
theorem t_Mo_hear_214 {d : Nat} {o0 : Option Value} {o1 : Option Value} {o2 : Option Value} {o3 : Option Value} {o4 : Option Value} {o5 : Option Value} {o6 : Option Value} {o7 : Option Value} {x8 : Int32} {o9 : Option Value} {w : qk_W} {nc ns : Nat} {Q : Option Value ⊕ Nat → qk_W → Nat → Nat → Prop}   (hq : Q (.inl (some (.int x8))) w nc ns) : Ev d m_Mo_hear 214 [o0, o1, o2, o3, o4, o5, o6, o7, some (.int x8), o9] [] w nc ns Q := by
  refine ev_iload d_Mo_hear_214 rfl ?_
  exact ev_iret d_Mo_hear_216 rfl rfl hq
/-! Mo_isChecked -/
theorem d_Mo_isChecked_0 : decode m_Mo_isChecked.2.1 0 = .ok (.aload_n 0, 1) := by decide +kernel
theorem d_Mo_isChecked_1 : decode m_Mo_isChecked.2.1 1 = .ok (.bipush 8, 2) := by decide +kernel
theorem d_Mo_isChecked_3 : decode m_Mo_isChecked.2.1 3 = .ok (.iload_n 1, 1) := by decide +kernel
theorem d_Mo_isChecked_4 : decode m_Mo_isChecked.2.1 4 = .ok (.iconst 4, 1) := by decide +kernel
theorem d_Mo_isChecked_5 : decode m_Mo_isChecked.2.1 5 = .ok (.isub, 1) := by decide +kernel
theorem d_Mo_isChecked_6 : decode m_Mo_isChecked.2.1 6 = .ok (.imul, 1) := by decide +kernel
theorem d_Mo_isChecked_7 : decode m_Mo_isChecked.2.1 7 = .ok (.putfield 115, 3) := by decide +kernel
theorem d_Mo_isChecked_10 : decode m_Mo_isChecked.2.1 10 = .ok (.aload_n 0, 1) := by decide +kernel
theorem d_Mo_isChecked_11 : decode m_Mo_isChecked.2.1 11 = .ok (.bipush 32, 2) := by decide +kernel
theorem d_Mo_isChecked_13 : decode m_Mo_isChecked.2.1 13 = .ok (.invokevirtual 161, 3) := by decide +kernel
theorem d_Mo_isChecked_16 : decode m_Mo_isChecked.2.1 16 = .ok (.l2i, 1) := by decide +kernel
theorem d_Mo_isChecked_17 : decode m_Mo_isChecked.2.1 17 = .ok (.aload_n 0, 1) := by decide +kernel
theorem d_Mo_isChecked_18 : decode m_Mo_isChecked.2.1 18 = .ok (.aload_n 0, 1) := by decide +kernel
theorem d_Mo_isChecked_19 : decode m_Mo_isChecked.2.1 19 = .ok (.getfield 112, 3) := by decide +kernel
theorem d_Mo_isChecked_22 : decode m_Mo_isChecked.2.1 22 = .ok (.iload_n 1, 1) := by decide +kernel
theorem d_Mo_isChecked_23 : decode m_Mo_isChecked.2.1 23 = .ok (.iconst 4, 1) := by decide +kernel
theorem d_Mo_isChecked_24 : decode m_Mo_isChecked.2.1 24 = .ok (.isub, 1) := by decide +kernel
theorem d_Mo_isChecked_25 : decode m_Mo_isChecked.2.1 25 = .ok (.invokevirtual 119, 3) := by decide +kernel
theorem d_Mo_isChecked_28 : decode m_Mo_isChecked.2.1 28 = .ok (.if_icmp .ne 7, 3) := by decide +kernel
theorem d_Mo_isChecked_31 : decode m_Mo_isChecked.2.1 31 = .ok (.iconst 1, 1) := by decide +kernel
theorem d_Mo_isChecked_32 : decode m_Mo_isChecked.2.1 32 = .ok (.goto 4, 3) := by decide +kernel
theorem d_Mo_isChecked_35 : decode m_Mo_isChecked.2.1 35 = .ok (.iconst 0, 1) := by decide +kernel
theorem d_Mo_isChecked_36 : decode m_Mo_isChecked.2.1 36 = .ok (.ireturn, 1) := by decide +kernel
theorem t_Mo_isChecked_0 {d : Nat} {st : List Value} {a0 : Nat} {x1 : Int32} {fs2 : List Value} {w : qk_W} {nc ns : Nat} {Q : Option Value ⊕ Nat → qk_W → Nat → Nat → Prop}  (hw1 : wo w a0 11 fs2) (hk : 25 < fs2.length) (k : Ev d m_Mo_isChecked 10 [some (.ref a0), some (.int x1)] st (qk_set w a0 (.inr (11, fs2.set 25 (.int (8 * (x1 - 4)))))) nc ns Q) : Ev d m_Mo_isChecked 0 [some (.ref a0), some (.int x1)] st w nc ns Q := by
  refine ev_aload_n d_Mo_isChecked_0 rfl rfl ?_
  refine ev_bipush 8 d_Mo_isChecked_1 (by decide) ?_
  refine ev_iload_n d_Mo_isChecked_3 rfl ?_
  refine ev_iconst 4 d_Mo_isChecked_4 (by decide) ?_
  refine ev_isub d_Mo_isChecked_5 ?_
  refine ev_imul d_Mo_isChecked_6 ?_
  exact ev_putf d_Mo_isChecked_7 fl_Mo_115 rfl hw1.1 hw1.2 hk (qk_fitI _) k
theorem t_Mo_isChecked_10 {d : Nat} {st : List Value} {a0 : Nat} {o1 : Option Value} {fsb : List Value} {w : qk_W} {nc ns : Nat} {Q : Option Value ⊕ Nat → qk_W → Nat → Nat → Prop}  (hb : wo w a0 11 fsb) (h8 : (st.map fun v => Value.category v).sum ≤ 8) (k : Ev d m_Mo_get 0 [some (.ref a0), some (.int 32), none, none, none] [] w nc ns (fun r w1 nc1 ns1 => match r with | .inl v => Ev (d + 1) m_Mo_isChecked 16 [some (.ref a0), o1] (v.toList ++ st) w1 nc1 ns1 Q | .inr x => Q (.inr x) w1 nc1 ns1)) : Ev (d + 1) m_Mo_isChecked 10 [some (.ref a0), o1] st w nc ns Q := by
  refine ev_aload_n d_Mo_isChecked_10 rfl rfl ?_
  refine ev_bipush 32 d_Mo_isChecked_11 (by decide) ?_
  exact ev_call (M' := m_Mo_get) (As := [.ref a0, .int 32]) (st := st) d_Mo_isChecked_13 i_Mo_get (fun h => absurd h (by decide +kernel)) cw_Mo_161 rfl rfl ⟨hb.1, 11, _, _, hb.2, rfl, rfl⟩ rfl (Nat.le_of_ble_eq_true rfl) h8 k
theorem t_Mo_isChecked_16 {d : Nat} {st : List Value} {a0 : Nat} {x1 : Int32} {y0 : Int64} {fs2 : List Value} {n4 : Int32} {w : qk_W} {nc ns : Nat} {Q : Option Value ⊕ Nat → qk_W → Nat → Nat → Prop}  (hw1 : wo w a0 11 fs2) (hf3 : fs2[24]? = some (.int n4)) (h8 : ((.int (Int64.toInt32 y0) :: st).map fun v => Value.category v).sum ≤ 8) (k : Ev d m_Mo_check 0 [some (.ref a0), some (.int n4), some (.int (x1 - 4)), none, none, none, none] [] w nc ns (fun r w1 nc1 ns1 => match r with | .inl v => Ev (d + 1) m_Mo_isChecked 28 [some (.ref a0), some (.int x1)] (v.toList ++ (.int (Int64.toInt32 y0) :: st)) w1 nc1 ns1 Q | .inr x => Q (.inr x) w1 nc1 ns1)) : Ev (d + 1) m_Mo_isChecked 16 [some (.ref a0), some (.int x1)] (.long y0 :: st) w nc ns Q := by
  refine ev_l2i d_Mo_isChecked_16 ?_
  refine ev_aload_n d_Mo_isChecked_17 rfl rfl ?_
  refine ev_aload_n d_Mo_isChecked_18 rfl rfl ?_
  refine ev_getf d_Mo_isChecked_19 fl_Mo_112 hw1.1 hw1.2 hf3 ?_
  refine ev_iload_n d_Mo_isChecked_22 rfl ?_
  refine ev_iconst 4 d_Mo_isChecked_23 (by decide) ?_
  refine ev_isub d_Mo_isChecked_24 ?_
  exact ev_call (M' := m_Mo_check) (As := [.ref a0, .int n4, .int (x1 - 4)]) (st := (.int (Int64.toInt32 y0) :: st)) d_Mo_isChecked_25 i_Mo_check (fun h => absurd h (by decide +kernel)) cw_Mo_119 rfl rfl ⟨hw1.1, 11, _, _, hw1.2, rfl, rfl⟩ rfl (Nat.le_of_ble_eq_true rfl) h8 k
theorem t_Mo_isChecked_28 {d : Nat} {st : List Value} {o0 : Option Value} {o1 : Option Value} {y0 : Int32} {y1 : Int32} {w : qk_W} {nc ns : Nat} {Q : Option Value ⊕ Nat → qk_W → Nat → Nat → Prop}   (kt : ¬ y1 = y0 → Ev d m_Mo_isChecked 35 [o0, o1] st w nc ns Q) (kf : y1 = y0 → Ev d m_Mo_isChecked 31 [o0, o1] st w nc ns Q) : Ev d m_Mo_isChecked 28 [o0, o1] (.int y0 :: .int y1 :: st) w nc ns Q := by
  exact ev_icmp_ne 35 d_Mo_isChecked_28 (by decide) kt kf
theorem t_Mo_isChecked_31 {d : Nat} {o0 : Option Value} {o1 : Option Value} {w : qk_W} {nc ns : Nat} {Q : Option Value ⊕ Nat → qk_W → Nat → Nat → Prop}   (hq : Q (.inl (some (.int 1))) w nc ns) : Ev d m_Mo_isChecked 31 [o0, o1] [] w nc ns Q := by
  refine ev_iconst 1 d_Mo_isChecked_31 (by decide) ?_
  refine ev_goto 36 d_Mo_isChecked_32 (by decide) ?_
  exact ev_iret d_Mo_isChecked_36 rfl rfl hq
theorem t_Mo_isChecked_35 {d : Nat} {o0 : Option Value} {o1 : Option Value} {w : qk_W} {nc ns : Nat} {Q : Option Value ⊕ Nat → qk_W → Nat → Nat → Prop}   (hq : Q (.inl (some (.int 0))) w nc ns) : Ev d m_Mo_isChecked 35 [o0, o1] [] w nc ns Q := by
  refine ev_iconst 0 d_Mo_isChecked_35 (by decide) ?_
  exact ev_iret d_Mo_isChecked_36 rfl rfl hq
/-! Mo_get -/
theorem ll_Mo_159 : Cond.constantLong "QuakeLinkModel" 159 (2) ∈ lw_tbl := (lw_i5 _ (List.mem_of_getElem? (i := 174) rfl))
theorem d_Mo_get_0 : decode m_Mo_get.2.1 0 = .ok (.lconst 0, 1) := by decide +kernel
theorem d_Mo_get_1 : decode m_Mo_get.2.1 1 = .ok (.lstore_n 2, 1) := by decide +kernel
theorem d_Mo_get_2 : decode m_Mo_get.2.1 2 = .ok (.iconst 0, 1) := by decide +kernel
theorem d_Mo_get_3 : decode m_Mo_get.2.1 3 = .ok (.istore 4, 2) := by decide +kernel
theorem d_Mo_get_5 : decode m_Mo_get.2.1 5 = .ok (.iload 4, 2) := by decide +kernel
theorem d_Mo_get_7 : decode m_Mo_get.2.1 7 = .ok (.iload_n 1, 1) := by decide +kernel
theorem d_Mo_get_8 : decode m_Mo_get.2.1 8 = .ok (.if_icmp .ge 61, 3) := by decide +kernel
theorem d_Mo_get_11 : decode m_Mo_get.2.1 11 = .ok (.ldc2_w 159, 3) := by decide +kernel
theorem d_Mo_get_14 : decode m_Mo_get.2.1 14 = .ok (.lload_n 2, 1) := by decide +kernel
theorem d_Mo_get_15 : decode m_Mo_get.2.1 15 = .ok (.lmul, 1) := by decide +kernel
theorem d_Mo_get_16 : decode m_Mo_get.2.1 16 = .ok (.aload_n 0, 1) := by decide +kernel
theorem d_Mo_get_17 : decode m_Mo_get.2.1 17 = .ok (.getfield 47, 3) := by decide +kernel
theorem d_Mo_get_20 : decode m_Mo_get.2.1 20 = .ok (.sipush 512, 3) := by decide +kernel
theorem d_Mo_get_23 : decode m_Mo_get.2.1 23 = .ok (.aload_n 0, 1) := by decide +kernel
theorem d_Mo_get_24 : decode m_Mo_get.2.1 24 = .ok (.getfield 112, 3) := by decide +kernel
theorem d_Mo_get_27 : decode m_Mo_get.2.1 27 = .ok (.imul, 1) := by decide +kernel
theorem d_Mo_get_28 : decode m_Mo_get.2.1 28 = .ok (.aload_n 0, 1) := by decide +kernel
theorem d_Mo_get_29 : decode m_Mo_get.2.1 29 = .ok (.getfield 115, 3) := by decide +kernel
theorem d_Mo_get_32 : decode m_Mo_get.2.1 32 = .ok (.bipush 8, 2) := by decide +kernel
theorem d_Mo_get_34 : decode m_Mo_get.2.1 34 = .ok (.idiv, 1) := by decide +kernel
theorem d_Mo_get_35 : decode m_Mo_get.2.1 35 = .ok (.iadd, 1) := by decide +kernel
theorem d_Mo_get_36 : decode m_Mo_get.2.1 36 = .ok (.baload, 1) := by decide +kernel
theorem d_Mo_get_37 : decode m_Mo_get.2.1 37 = .ok (.bipush 7, 2) := by decide +kernel
theorem d_Mo_get_39 : decode m_Mo_get.2.1 39 = .ok (.aload_n 0, 1) := by decide +kernel
theorem d_Mo_get_40 : decode m_Mo_get.2.1 40 = .ok (.getfield 115, 3) := by decide +kernel
theorem d_Mo_get_43 : decode m_Mo_get.2.1 43 = .ok (.bipush 8, 2) := by decide +kernel
theorem d_Mo_get_45 : decode m_Mo_get.2.1 45 = .ok (.irem, 1) := by decide +kernel
theorem d_Mo_get_46 : decode m_Mo_get.2.1 46 = .ok (.isub, 1) := by decide +kernel
theorem d_Mo_get_47 : decode m_Mo_get.2.1 47 = .ok (.ishr, 1) := by decide +kernel
theorem d_Mo_get_48 : decode m_Mo_get.2.1 48 = .ok (.iconst 1, 1) := by decide +kernel
theorem d_Mo_get_49 : decode m_Mo_get.2.1 49 = .ok (.iand, 1) := by decide +kernel
theorem d_Mo_get_50 : decode m_Mo_get.2.1 50 = .ok (.i2l, 1) := by decide +kernel
theorem d_Mo_get_51 : decode m_Mo_get.2.1 51 = .ok (.ladd, 1) := by decide +kernel
theorem d_Mo_get_52 : decode m_Mo_get.2.1 52 = .ok (.lstore_n 2, 1) := by decide +kernel
theorem d_Mo_get_53 : decode m_Mo_get.2.1 53 = .ok (.aload_n 0, 1) := by decide +kernel
theorem d_Mo_get_54 : decode m_Mo_get.2.1 54 = .ok (.dup, 1) := by decide +kernel
theorem d_Mo_get_55 : decode m_Mo_get.2.1 55 = .ok (.getfield 115, 3) := by decide +kernel
theorem d_Mo_get_58 : decode m_Mo_get.2.1 58 = .ok (.iconst 1, 1) := by decide +kernel
theorem d_Mo_get_59 : decode m_Mo_get.2.1 59 = .ok (.iadd, 1) := by decide +kernel
theorem d_Mo_get_60 : decode m_Mo_get.2.1 60 = .ok (.putfield 115, 3) := by decide +kernel
theorem d_Mo_get_63 : decode m_Mo_get.2.1 63 = .ok (.iinc 4 1, 3) := by decide +kernel
theorem d_Mo_get_66 : decode m_Mo_get.2.1 66 = .ok (.goto (-61), 3) := by decide +kernel
theorem d_Mo_get_69 : decode m_Mo_get.2.1 69 = .ok (.lload_n 2, 1) := by decide +kernel
theorem d_Mo_get_70 : decode m_Mo_get.2.1 70 = .ok (.lreturn, 1) := by decide +kernel
theorem t_Mo_get_0 {d : Nat} {st : List Value} {o0 : Option Value} {o1 : Option Value} {o2 : Option Value} {o3 : Option Value} {o4 : Option Value} {w : qk_W} {nc ns : Nat} {Q : Option Value ⊕ Nat → qk_W → Nat → Nat → Prop}  (hc1 : qk_c2 [o0, o1, o2, o3, o4] 2 = true) (k : Ev d m_Mo_get 5 [o0, o1, some (.long 0), none, some (.int 0)] st w nc ns Q) : Ev d m_Mo_get 0 [o0, o1, o2, o3, o4] st w nc ns Q := by
  refine ev_lconst 0 d_Mo_get_0 (by decide) ?_
  refine ev_lstore_n d_Mo_get_1 (by decide) hc1 ?_
  refine ev_iconst 0 d_Mo_get_2 (by decide) ?_
  refine ev_istore d_Mo_get_3 (by decide) rfl ?_
  exact k
theorem t_Mo_get_5 {d : Nat} {st : List Value} {o0 : Option Value} {x1 : Int32} {o2 : Option Value} {o3 : Option Value} {x4 : Int32} {w : qk_W} {nc ns : Nat} {Q : Option Value ⊕ Nat → qk_W → Nat → Nat → Prop}   (kt : x1 ≤ x4 → Ev d m_Mo_get 69 [o0, some (.int x1), o2, o3, some (.int x4)] st w nc ns Q) (kf : ¬ (x1 ≤ x4) → Ev d m_Mo_get 11 [o0, some (.int x1), o2, o3, some (.int x4)] st w nc ns Q) : Ev d m_Mo_get 5 [o0, some (.int x1), o2, o3, some (.int x4)] st w nc ns Q := by
  refine ev_iload d_Mo_get_5 rfl ?_
  refine ev_iload_n d_Mo_get_7 rfl ?_
  exact ev_icmp_ge 69 d_Mo_get_8 (by decide) kt kf
theorem t_Mo_get_11 {d : Nat} {st : List Value} {a0 : Nat} {o1 : Option Value} {x2 : Int64} {o3 : Option Value} {o4 : Option Value} {fs2 : List Value} {c4 : Nat} {n8 : Int32} {n12 : Int32} {n14 : Nat} {f15 : Nat → Int32} {w : qk_W} {nc ns : Nat} {Q : Option Value ⊕ Nat → qk_W → Nat → Nat → Prop}  (hw1 : wo w a0 11 fs2) (hf3 : fs2[14]? = some (.ref c4)) (hf7 : fs2[24]? = some (.int n8)) (hf11 : fs2[25]? = some (.int n12)) (ha13 : wb w c4 n14 f15) (hi16 : vp_in ((512 * n8) + (n12 / 8)) n14) (hc20 : qk_c2 [some (.ref a0), o1, some (.long x2), o3, o4] 2 = true) (hk : 25 < fs2.length) (k : Ev d m_Mo_get 63 [some (.ref a0), o1, some (.long ((2 * x2) + (Int32.toInt64 ((qi_shr (f15 ((512 * n8) + (n12 / 8)).toNatClampNeg) (7 - (qi_rem n12 8))) &&& 1)))), none, o4] st (qk_set w a0 (.inr (11, fs2.set 25 (.int (n12 + 1))))) nc ns Q) : Ev d m_Mo_get 11 [some (.ref a0), o1, some (.long x2), o3, o4] st w nc ns Q := by
  refine ev_ldc2 2 d_Mo_get_11 ll_Mo_159 ?_
  refine ev_lload_n d_Mo_get_14 rfl ?_
  refine ev_lmul d_Mo_get_15 ?_
  refine ev_aload_n d_Mo_get_16 rfl rfl ?_
  refine ev_getf d_Mo_get_17 fl_Mo_47 hw1.1 hw1.2 hf3 ?_
  refine ev_sipush 512 d_Mo_get_20 (by decide) ?_
  refine ev_aload_n d_Mo_get_23 rfl rfl ?_
  refine ev_getf d_Mo_get_24 fl_Mo_112 hw1.1 hw1.2 hf7 ?_
  refine ev_imul d_Mo_get_27 ?_
  refine ev_aload_n d_Mo_get_28 rfl rfl ?_
  refine ev_getf d_Mo_get_29 fl_Mo_115 hw1.1 hw1.2 hf11 ?_
  refine ev_bipush 8 d_Mo_get_32 (by decide) ?_
  refine ev_idiv d_Mo_get_34 (by decide) ?_
  refine ev_iadd d_Mo_get_35 ?_
  refine ev_bald d_Mo_get_36 ha13.1 ha13.2 hi16 ?_
  refine ev_bipush 7 d_Mo_get_37 (by decide) ?_
  refine ev_aload_n d_Mo_get_39 rfl rfl ?_
  refine ev_getf d_Mo_get_40 fl_Mo_115 hw1.1 hw1.2 hf11 ?_
  refine ev_bipush 8 d_Mo_get_43 (by decide) ?_
  refine ev_irem d_Mo_get_45 (by decide) ?_
  refine ev_isub d_Mo_get_46 ?_
  refine ev_ishr d_Mo_get_47 ?_
  refine ev_iconst 1 d_Mo_get_48 (by decide) ?_
  refine ev_iand d_Mo_get_49 ?_
  refine ev_i2l d_Mo_get_50 ?_
  refine ev_ladd d_Mo_get_51 ?_
  refine ev_lstore_n d_Mo_get_52 (by decide) hc20 ?_
  refine ev_aload_n d_Mo_get_53 rfl rfl ?_
  refine ev_dup d_Mo_get_54 rfl ?_
  refine ev_getf d_Mo_get_55 fl_Mo_115 hw1.1 hw1.2 hf11 ?_
  refine ev_iconst 1 d_Mo_get_58 (by decide) ?_
  refine ev_iadd d_Mo_get_59 ?_
  exact ev_putf d_Mo_get_60 fl_Mo_115 rfl hw1.1 hw1.2 hk (qk_fitI _) k
theorem t_Mo_get_63 {d : Nat} {st : List Value} {o0 : Option Value} {o1 : Option Value} {o2 : Option Value} {o3 : Option Value} {x4 : Int32} {w : qk_W} {nc ns : Nat} {Q : Option Value ⊕ Nat → qk_W → Nat → Nat → Prop}  (hc1 : qk_c2 [o0, o1, o2, o3, some (.int x4)] 4 = true) (k : Ev d m_Mo_get 5 [o0, o1, o2, o3, some (.int (x4 + 1))] st w nc ns Q) : Ev d m_Mo_get 63 [o0, o1, o2, o3, some (.int x4)] st w nc ns Q := by
  refine ev_iinc 1 d_Mo_get_63 (by decide) rfl (by decide) hc1 ?_
  refine ev_goto 5 d_Mo_get_66 (by decide) ?_
  exact k
theorem t_Mo_get_69 {d : Nat} {o0 : Option Value} {o1 : Option Value} {x2 : Int64} {o3 : Option Value} {o4 : Option Value} {w : qk_W} {nc ns : Nat} {Q : Option Value ⊕ Nat → qk_W → Nat → Nat → Prop}   (hq : Q (.inl (some (.long x2))) w nc ns) : Ev d m_Mo_get 69 [o0, o1, some (.long x2), o3, o4] [] w nc ns Q := by
  refine ev_lload_n d_Mo_get_69 rfl ?_
  exact ev_lret d_Mo_get_70 rfl hq
/-! Mo_deliver -/
theorem cw_Mo_192 : qk_cw "QuakeLinkModel" m_Mo_isMessage.1 (.invokevirtual 192) := ⟨(lw_i5 _ (List.mem_of_getElem? (i := 179) rfl)), (lw_i5 _ (List.mem_of_getElem? (i := 181) rfl)), (lw_i0 _ (List.mem_of_getElem? (i := 40) rfl))⟩
theorem fl_Mo_196 : qk_fl "QuakeLinkModel" 196 11 21 := ⟨_, rfl, by decide, rfl, (lw_i4 _ (List.mem_of_getElem? (i := 197) rfl))⟩
theorem fl_Mo_171 : qk_fl "QuakeLinkModel" 171 11 26 := ⟨_, rfl, by decide, rfl, (lw_i4 _ (List.mem_of_getElem? (i := 202) rfl))⟩
theorem fl_Mo_180 : qk_fl "QuakeLinkModel" 180 11 30 := ⟨_, rfl, by decide, rfl, (lw_i4 _ (List.mem_of_getElem? (i := 206) rfl))⟩
theorem fl_Mo_184 : qk_fl "QuakeLinkModel" 184 11 29 := ⟨_, rfl, by decide, rfl, (lw_i4 _ (List.mem_of_getElem? (i := 205) rfl))⟩
theorem fl_Mo_177 : qk_fl "QuakeLinkModel" 177 11 27 := ⟨_, rfl, by decide, rfl, (lw_i4 _ (List.mem_of_getElem? (i := 203) rfl))⟩
theorem fl_Mo_199 : qk_fl "QuakeLinkModel" 199 11 22 := ⟨_, rfl, by decide, rfl, (lw_i4 _ (List.mem_of_getElem? (i := 198) rfl))⟩
theorem fl_Mo_174 : qk_fl "QuakeLinkModel" 174 11 28 := ⟨_, rfl, by decide, rfl, (lw_i4 _ (List.mem_of_getElem? (i := 204) rfl))⟩
theorem d_Mo_deliver_0 : decode m_Mo_deliver.2.1 0 = .ok (.aload_n 0, 1) := by decide +kernel
theorem d_Mo_deliver_1 : decode m_Mo_deliver.2.1 1 = .ok (.aload_n 0, 1) := by decide +kernel
theorem d_Mo_deliver_2 : decode m_Mo_deliver.2.1 2 = .ok (.iload_n 1, 1) := by decide +kernel
theorem d_Mo_deliver_3 : decode m_Mo_deliver.2.1 3 = .ok (.invokevirtual 153, 3) := by decide +kernel
theorem d_Mo_deliver_6 : decode m_Mo_deliver.2.1 6 = .ok (.ifCond .eq 7, 3) := by decide +kernel
theorem d_Mo_deliver_9 : decode m_Mo_deliver.2.1 9 = .ok (.iconst 0, 1) := by decide +kernel
theorem d_Mo_deliver_10 : decode m_Mo_deliver.2.1 10 = .ok (.goto 4, 3) := by decide +kernel
theorem d_Mo_deliver_13 : decode m_Mo_deliver.2.1 13 = .ok (.iconst 1, 1) := by decide +kernel
theorem d_Mo_deliver_14 : decode m_Mo_deliver.2.1 14 = .ok (.putfield 69, 3) := by decide +kernel
theorem d_Mo_deliver_17 : decode m_Mo_deliver.2.1 17 = .ok (.aload_n 0, 1) := by decide +kernel
theorem d_Mo_deliver_18 : decode m_Mo_deliver.2.1 18 = .ok (.getfield 69, 3) := by decide +kernel
theorem d_Mo_deliver_21 : decode m_Mo_deliver.2.1 21 = .ok (.ifCond .le 5, 3) := by decide +kernel
theorem d_Mo_deliver_24 : decode m_Mo_deliver.2.1 24 = .ok (.iconst 0, 1) := by decide +kernel
theorem d_Mo_deliver_25 : decode m_Mo_deliver.2.1 25 = .ok (.ireturn, 1) := by decide +kernel
theorem d_Mo_deliver_26 : decode m_Mo_deliver.2.1 26 = .ok (.aload_n 0, 1) := by decide +kernel
theorem d_Mo_deliver_27 : decode m_Mo_deliver.2.1 27 = .ok (.iload_n 1, 1) := by decide +kernel
theorem d_Mo_deliver_28 : decode m_Mo_deliver.2.1 28 = .ok (.bipush 64, 2) := by decide +kernel
theorem d_Mo_deliver_30 : decode m_Mo_deliver.2.1 30 = .ok (.irem, 1) := by decide +kernel
theorem d_Mo_deliver_31 : decode m_Mo_deliver.2.1 31 = .ok (.putfield 112, 3) := by decide +kernel
theorem d_Mo_deliver_34 : decode m_Mo_deliver.2.1 34 = .ok (.aload_n 0, 1) := by decide +kernel
theorem d_Mo_deliver_35 : decode m_Mo_deliver.2.1 35 = .ok (.invokevirtual 192, 3) := by decide +kernel
theorem d_Mo_deliver_38 : decode m_Mo_deliver.2.1 38 = .ok (.ifCond .ne 15, 3) := by decide +kernel
theorem d_Mo_deliver_41 : decode m_Mo_deliver.2.1 41 = .ok (.aload_n 0, 1) := by decide +kernel
theorem d_Mo_deliver_42 : decode m_Mo_deliver.2.1 42 = .ok (.dup, 1) := by decide +kernel
theorem d_Mo_deliver_43 : decode m_Mo_deliver.2.1 43 = .ok (.getfield 196, 3) := by decide +kernel
theorem d_Mo_deliver_46 : decode m_Mo_deliver.2.1 46 = .ok (.iconst 1, 1) := by decide +kernel
theorem d_Mo_deliver_47 : decode m_Mo_deliver.2.1 47 = .ok (.iadd, 1) := by decide +kernel
theorem d_Mo_deliver_48 : decode m_Mo_deliver.2.1 48 = .ok (.putfield 196, 3) := by decide +kernel
theorem d_Mo_deliver_51 : decode m_Mo_deliver.2.1 51 = .ok (.iconst (-1), 1) := by decide +kernel
theorem d_Mo_deliver_52 : decode m_Mo_deliver.2.1 52 = .ok (.ireturn, 1) := by decide +kernel
theorem d_Mo_deliver_53 : decode m_Mo_deliver.2.1 53 = .ok (.aload_n 0, 1) := by decide +kernel
theorem d_Mo_deliver_54 : decode m_Mo_deliver.2.1 54 = .ok (.getfield 63, 3) := by decide +kernel
theorem d_Mo_deliver_57 : decode m_Mo_deliver.2.1 57 = .ok (.aload_n 0, 1) := by decide +kernel
theorem d_Mo_deliver_58 : decode m_Mo_deliver.2.1 58 = .ok (.getfield 171, 3) := by decide +kernel
theorem d_Mo_deliver_61 : decode m_Mo_deliver.2.1 61 = .ok (.aload_n 0, 1) := by decide +kernel
theorem d_Mo_deliver_62 : decode m_Mo_deliver.2.1 62 = .ok (.getfield 180, 3) := by decide +kernel
theorem d_Mo_deliver_65 : decode m_Mo_deliver.2.1 65 = .ok (.aload_n 0, 1) := by decide +kernel
theorem d_Mo_deliver_66 : decode m_Mo_deliver.2.1 66 = .ok (.getfield 63, 3) := by decide +kernel
theorem d_Mo_deliver_69 : decode m_Mo_deliver.2.1 69 = .ok (.aload_n 0, 1) := by decide +kernel
theorem d_Mo_deliver_70 : decode m_Mo_deliver.2.1 70 = .ok (.getfield 171, 3) := by decide +kernel
theorem d_Mo_deliver_73 : decode m_Mo_deliver.2.1 73 = .ok (.iaload, 1) := by decide +kernel
theorem d_Mo_deliver_74 : decode m_Mo_deliver.2.1 74 = .ok (.i2l, 1) := by decide +kernel
theorem d_Mo_deliver_75 : decode m_Mo_deliver.2.1 75 = .ok (.lcmp, 1) := by decide +kernel
theorem d_Mo_deliver_76 : decode m_Mo_deliver.2.1 76 = .ok (.ifCond .le 11, 3) := by decide +kernel
theorem d_Mo_deliver_79 : decode m_Mo_deliver.2.1 79 = .ok (.aload_n 0, 1) := by decide +kernel
theorem d_Mo_deliver_80 : decode m_Mo_deliver.2.1 80 = .ok (.getfield 180, 3) := by decide +kernel
theorem d_Mo_deliver_83 : decode m_Mo_deliver.2.1 83 = .ok (.l2i, 1) := by decide +kernel
theorem d_Mo_deliver_84 : decode m_Mo_deliver.2.1 84 = .ok (.goto 12, 3) := by decide +kernel
theorem d_Mo_deliver_87 : decode m_Mo_deliver.2.1 87 = .ok (.aload_n 0, 1) := by decide +kernel
theorem d_Mo_deliver_88 : decode m_Mo_deliver.2.1 88 = .ok (.getfield 63, 3) := by decide +kernel
theorem d_Mo_deliver_91 : decode m_Mo_deliver.2.1 91 = .ok (.aload_n 0, 1) := by decide +kernel
theorem d_Mo_deliver_92 : decode m_Mo_deliver.2.1 92 = .ok (.getfield 171, 3) := by decide +kernel
theorem d_Mo_deliver_95 : decode m_Mo_deliver.2.1 95 = .ok (.iaload, 1) := by decide +kernel
theorem d_Mo_deliver_96 : decode m_Mo_deliver.2.1 96 = .ok (.iastore, 1) := by decide +kernel
theorem d_Mo_deliver_97 : decode m_Mo_deliver.2.1 97 = .ok (.aload_n 0, 1) := by decide +kernel
theorem d_Mo_deliver_98 : decode m_Mo_deliver.2.1 98 = .ok (.getfield 171, 3) := by decide +kernel
theorem d_Mo_deliver_101 : decode m_Mo_deliver.2.1 101 = .ok (.ldc 46, 2) := by decide +kernel
theorem d_Mo_deliver_103 : decode m_Mo_deliver.2.1 103 = .ok (.imul, 1) := by decide +kernel
theorem d_Mo_deliver_104 : decode m_Mo_deliver.2.1 104 = .ok (.aload_n 0, 1) := by decide +kernel
theorem d_Mo_deliver_105 : decode m_Mo_deliver.2.1 105 = .ok (.getfield 184, 3) := by decide +kernel
theorem d_Mo_deliver_108 : decode m_Mo_deliver.2.1 108 = .ok (.l2i, 1) := by decide +kernel
theorem d_Mo_deliver_109 : decode m_Mo_deliver.2.1 109 = .ok (.iadd, 1) := by decide +kernel
theorem d_Mo_deliver_110 : decode m_Mo_deliver.2.1 110 = .ok (.istore_n 2, 1) := by decide +kernel
theorem d_Mo_deliver_111 : decode m_Mo_deliver.2.1 111 = .ok (.iconst 0, 1) := by decide +kernel
theorem d_Mo_deliver_112 : decode m_Mo_deliver.2.1 112 = .ok (.istore_n 3, 1) := by decide +kernel
theorem d_Mo_deliver_113 : decode m_Mo_deliver.2.1 113 = .ok (.iload_n 3, 1) := by decide +kernel
theorem d_Mo_deliver_114 : decode m_Mo_deliver.2.1 114 = .ok (.aload_n 0, 1) := by decide +kernel
theorem d_Mo_deliver_115 : decode m_Mo_deliver.2.1 115 = .ok (.getfield 177, 3) := by decide +kernel
theorem d_Mo_deliver_118 : decode m_Mo_deliver.2.1 118 = .ok (.if_icmp .ge 50, 3) := by decide +kernel
theorem d_Mo_deliver_121 : decode m_Mo_deliver.2.1 121 = .ok (.aload_n 0, 1) := by decide +kernel
theorem d_Mo_deliver_122 : decode m_Mo_deliver.2.1 122 = .ok (.getfield 60, 3) := by decide +kernel
theorem d_Mo_deliver_125 : decode m_Mo_deliver.2.1 125 = .ok (.iload_n 2, 1) := by decide +kernel
theorem d_Mo_deliver_126 : decode m_Mo_deliver.2.1 126 = .ok (.iload_n 3, 1) := by decide +kernel
theorem d_Mo_deliver_127 : decode m_Mo_deliver.2.1 127 = .ok (.iadd, 1) := by decide +kernel
theorem d_Mo_deliver_128 : decode m_Mo_deliver.2.1 128 = .ok (.baload, 1) := by decide +kernel
theorem d_Mo_deliver_129 : decode m_Mo_deliver.2.1 129 = .ok (.ifCond .le 33, 3) := by decide +kernel
theorem d_Mo_deliver_132 : decode m_Mo_deliver.2.1 132 = .ok (.aload_n 0, 1) := by decide +kernel
theorem d_Mo_deliver_133 : decode m_Mo_deliver.2.1 133 = .ok (.getfield 57, 3) := by decide +kernel
theorem d_Mo_deliver_136 : decode m_Mo_deliver.2.1 136 = .ok (.iload_n 2, 1) := by decide +kernel
theorem d_Mo_deliver_137 : decode m_Mo_deliver.2.1 137 = .ok (.iload_n 3, 1) := by decide +kernel
theorem d_Mo_deliver_138 : decode m_Mo_deliver.2.1 138 = .ok (.iadd, 1) := by decide +kernel
theorem d_Mo_deliver_139 : decode m_Mo_deliver.2.1 139 = .ok (.iaload, 1) := by decide +kernel
theorem d_Mo_deliver_140 : decode m_Mo_deliver.2.1 140 = .ok (.aload_n 0, 1) := by decide +kernel
theorem d_Mo_deliver_141 : decode m_Mo_deliver.2.1 141 = .ok (.getfield 66, 3) := by decide +kernel
theorem d_Mo_deliver_144 : decode m_Mo_deliver.2.1 144 = .ok (.iload_n 3, 1) := by decide +kernel
theorem d_Mo_deliver_145 : decode m_Mo_deliver.2.1 145 = .ok (.iaload, 1) := by decide +kernel
theorem d_Mo_deliver_146 : decode m_Mo_deliver.2.1 146 = .ok (.if_icmp .eq 16, 3) := by decide +kernel
theorem d_Mo_deliver_149 : decode m_Mo_deliver.2.1 149 = .ok (.aload_n 0, 1) := by decide +kernel
theorem d_Mo_deliver_150 : decode m_Mo_deliver.2.1 150 = .ok (.dup, 1) := by decide +kernel
theorem d_Mo_deliver_151 : decode m_Mo_deliver.2.1 151 = .ok (.getfield 199, 3) := by decide +kernel
theorem d_Mo_deliver_154 : decode m_Mo_deliver.2.1 154 = .ok (.iconst 1, 1) := by decide +kernel
theorem d_Mo_deliver_155 : decode m_Mo_deliver.2.1 155 = .ok (.iadd, 1) := by decide +kernel
theorem d_Mo_deliver_156 : decode m_Mo_deliver.2.1 156 = .ok (.putfield 199, 3) := by decide +kernel
theorem d_Mo_deliver_159 : decode m_Mo_deliver.2.1 159 = .ok (.bipush (-2), 2) := by decide +kernel
theorem d_Mo_deliver_161 : decode m_Mo_deliver.2.1 161 = .ok (.ireturn, 1) := by decide +kernel
theorem d_Mo_deliver_162 : decode m_Mo_deliver.2.1 162 = .ok (.iinc 3 1, 3) := by decide +kernel
theorem d_Mo_deliver_165 : decode m_Mo_deliver.2.1 165 = .ok (.goto (-52), 3) := by decide +kernel
theorem d_Mo_deliver_168 : decode m_Mo_deliver.2.1 168 = .ok (.iconst 0, 1) := by decide +kernel
theorem d_Mo_deliver_169 : decode m_Mo_deliver.2.1 169 = .ok (.istore_n 3, 1) := by decide +kernel
theorem d_Mo_deliver_170 : decode m_Mo_deliver.2.1 170 = .ok (.iconst 0, 1) := by decide +kernel
theorem d_Mo_deliver_171 : decode m_Mo_deliver.2.1 171 = .ok (.istore 4, 2) := by decide +kernel
theorem d_Mo_deliver_173 : decode m_Mo_deliver.2.1 173 = .ok (.iload 4, 2) := by decide +kernel
theorem d_Mo_deliver_175 : decode m_Mo_deliver.2.1 175 = .ok (.aload_n 0, 1) := by decide +kernel
theorem d_Mo_deliver_176 : decode m_Mo_deliver.2.1 176 = .ok (.getfield 177, 3) := by decide +kernel
theorem d_Mo_deliver_179 : decode m_Mo_deliver.2.1 179 = .ok (.if_icmp .ge 56, 3) := by decide +kernel
theorem d_Mo_deliver_182 : decode m_Mo_deliver.2.1 182 = .ok (.aload_n 0, 1) := by decide +kernel
theorem d_Mo_deliver_183 : decode m_Mo_deliver.2.1 183 = .ok (.getfield 60, 3) := by decide +kernel
theorem d_Mo_deliver_186 : decode m_Mo_deliver.2.1 186 = .ok (.iload_n 2, 1) := by decide +kernel
theorem d_Mo_deliver_187 : decode m_Mo_deliver.2.1 187 = .ok (.iload 4, 2) := by decide +kernel
theorem d_Mo_deliver_189 : decode m_Mo_deliver.2.1 189 = .ok (.iadd, 1) := by decide +kernel
theorem d_Mo_deliver_190 : decode m_Mo_deliver.2.1 190 = .ok (.baload, 1) := by decide +kernel
theorem d_Mo_deliver_191 : decode m_Mo_deliver.2.1 191 = .ok (.ifCond .ne 38, 3) := by decide +kernel
theorem d_Mo_deliver_194 : decode m_Mo_deliver.2.1 194 = .ok (.aload_n 0, 1) := by decide +kernel
theorem d_Mo_deliver_195 : decode m_Mo_deliver.2.1 195 = .ok (.getfield 60, 3) := by decide +kernel
theorem d_Mo_deliver_198 : decode m_Mo_deliver.2.1 198 = .ok (.iload_n 2, 1) := by decide +kernel
theorem d_Mo_deliver_199 : decode m_Mo_deliver.2.1 199 = .ok (.iload 4, 2) := by decide +kernel
theorem d_Mo_deliver_201 : decode m_Mo_deliver.2.1 201 = .ok (.iadd, 1) := by decide +kernel
theorem d_Mo_deliver_202 : decode m_Mo_deliver.2.1 202 = .ok (.aload_n 0, 1) := by decide +kernel
theorem d_Mo_deliver_203 : decode m_Mo_deliver.2.1 203 = .ok (.getfield 174, 3) := by decide +kernel
theorem d_Mo_deliver_206 : decode m_Mo_deliver.2.1 206 = .ok (.iconst 1, 1) := by decide +kernel
theorem d_Mo_deliver_207 : decode m_Mo_deliver.2.1 207 = .ok (.iadd, 1) := by decide +kernel
theorem d_Mo_deliver_208 : decode m_Mo_deliver.2.1 208 = .ok (.i2b, 1) := by decide +kernel
theorem d_Mo_deliver_209 : decode m_Mo_deliver.2.1 209 = .ok (.bastore, 1) := by decide +kernel
theorem d_Mo_deliver_210 : decode m_Mo_deliver.2.1 210 = .ok (.aload_n 0, 1) := by decide +kernel
theorem d_Mo_deliver_211 : decode m_Mo_deliver.2.1 211 = .ok (.getfield 57, 3) := by decide +kernel
theorem d_Mo_deliver_214 : decode m_Mo_deliver.2.1 214 = .ok (.iload_n 2, 1) := by decide +kernel
theorem d_Mo_deliver_215 : decode m_Mo_deliver.2.1 215 = .ok (.iload 4, 2) := by decide +kernel
theorem d_Mo_deliver_217 : decode m_Mo_deliver.2.1 217 = .ok (.iadd, 1) := by decide +kernel
theorem d_Mo_deliver_218 : decode m_Mo_deliver.2.1 218 = .ok (.aload_n 0, 1) := by decide +kernel
theorem d_Mo_deliver_219 : decode m_Mo_deliver.2.1 219 = .ok (.getfield 66, 3) := by decide +kernel
theorem d_Mo_deliver_222 : decode m_Mo_deliver.2.1 222 = .ok (.iload 4, 2) := by decide +kernel
theorem d_Mo_deliver_224 : decode m_Mo_deliver.2.1 224 = .ok (.iaload, 1) := by decide +kernel
theorem d_Mo_deliver_225 : decode m_Mo_deliver.2.1 225 = .ok (.iastore, 1) := by decide +kernel
theorem d_Mo_deliver_226 : decode m_Mo_deliver.2.1 226 = .ok (.iinc 3 1, 3) := by decide +kernel
theorem d_Mo_deliver_229 : decode m_Mo_deliver.2.1 229 = .ok (.iinc 4 1, 3) := by decide +kernel
theorem d_Mo_deliver_232 : decode m_Mo_deliver.2.1 232 = .ok (.goto (-59), 3) := by decide +kernel
theorem d_Mo_deliver_235 : decode m_Mo_deliver.2.1 235 = .ok (.iload_n 3, 1) := by decide +kernel
theorem d_Mo_deliver_236 : decode m_Mo_deliver.2.1 236 = .ok (.ireturn, 1) := by decide +kernel
theorem t_Mo_deliver_0 {d : Nat} {st : List Value} {a0 : Nat} {x1 : Int32} {o2 : Option Value} {o3 : Option Value} {o4 : Option Value} {fsb : List Value} {w : qk_W} {nc ns : Nat} {Q : Option Value ⊕ Nat → qk_W → Nat → Nat → Prop}  (hb : wo w a0 11 fsb) (h8 : ((.ref a0 :: st).map fun v => Value.category v).sum ≤ 8) (k : Ev d m_Mo_isSlot 0 [some (.ref a0), some (.int x1)] [] w nc ns (fun r w1 nc1 ns1 => match r with | .inl v => Ev (d + 1) m_Mo_deliver 6 [some (.ref a0), some (.int x1), o2, o3, o4] (v.toList ++ (.ref a0 :: st)) w1 nc1 ns1 Q | .inr x => Q (.inr x) w1 nc1 ns1)) : Ev (d + 1) m_Mo_deliver 0 [some (.ref a0), some (.int x1), o2, o3, o4] st w nc ns Q := by
  refine ev_aload_n d_Mo_deliver_0 rfl rfl ?_
  refine ev_aload_n d_Mo_deliver_1 rfl rfl ?_
  refine ev_iload_n d_Mo_deliver_2 rfl ?_
  exact ev_call (M' := m_Mo_isSlot) (As := [.ref a0, .int x1]) (st := (.ref a0 :: st)) d_Mo_deliver_3 i_Mo_isSlot (fun h => absurd h (by decide +kernel)) cw_Mo_153 rfl rfl ⟨hb.1, 11, _, _, hb.2, rfl, rfl⟩ rfl (Nat.le_of_ble_eq_true rfl) h8 k
theorem t_Mo_deliver_6 {d : Nat} {st : List Value} {o0 : Option Value} {o1 : Option Value} {o2 : Option Value} {o3 : Option Value} {o4 : Option Value} {y0 : Int32} {w : qk_W} {nc ns : Nat} {Q : Option Value ⊕ Nat → qk_W → Nat → Nat → Prop}   (kt : y0 = 0 → Ev d m_Mo_deliver 13 [o0, o1, o2, o3, o4] st w nc ns Q) (kf : ¬ (y0 = 0) → Ev d m_Mo_deliver 9 [o0, o1, o2, o3, o4] st w nc ns Q) : Ev d m_Mo_deliver 6 [o0, o1, o2, o3, o4] (.int y0 :: st) w nc ns Q := by
  exact ev_if_eq 13 d_Mo_deliver_6 (by decide) kt kf
theorem t_Mo_deliver_9 {d : Nat} {st : List Value} {o0 : Option Value} {o1 : Option Value} {o2 : Option Value} {o3 : Option Value} {o4 : Option Value} {b0 : Nat} {fs2 : List Value} {w : qk_W} {nc ns : Nat} {Q : Option Value ⊕ Nat → qk_W → Nat → Nat → Prop}  (hw1 : wo w b0 11 fs2) (hk : 0 < fs2.length) (k : Ev d m_Mo_deliver 17 [o0, o1, o2, o3, o4] st (qk_set w b0 (.inr (11, fs2.set 0 (.int 0)))) nc ns Q) : Ev d m_Mo_deliver 9 [o0, o1, o2, o3, o4] (.ref b0 :: st) w nc ns Q := by
  refine ev_iconst 0 d_Mo_deliver_9 (by decide) ?_
  refine ev_goto 14 d_Mo_deliver_10 (by decide) ?_
  exact ev_putf d_Mo_deliver_14 fl_Mo_69 rfl hw1.1 hw1.2 hk (qk_fitI _) k
theorem t_Mo_deliver_13 {d : Nat} {st : List Value} {o0 : Option Value} {o1 : Option Value} {o2 : Option Value} {o3 : Option Value} {o4 : Option Value} {b0 : Nat} {fs2 : List Value} {w : qk_W} {nc ns : Nat} {Q : Option Value ⊕ Nat → qk_W → Nat → Nat → Prop}  (hw1 : wo w b0 11 fs2) (hk : 0 < fs2.length) (k : Ev d m_Mo_deliver 17 [o0, o1, o2, o3, o4] st (qk_set w b0 (.inr (11, fs2.set 0 (.int 1)))) nc ns Q) : Ev d m_Mo_deliver 13 [o0, o1, o2, o3, o4] (.ref b0 :: st) w nc ns Q := by
  refine ev_iconst 1 d_Mo_deliver_13 (by decide) ?_
  exact ev_putf d_Mo_deliver_14 fl_Mo_69 rfl hw1.1 hw1.2 hk (qk_fitI _) k
theorem t_Mo_deliver_17 {d : Nat} {st : List Value} {a0 : Nat} {o1 : Option Value} {o2 : Option Value} {o3 : Option Value} {o4 : Option Value} {fs2 : List Value} {n4 : Int32} {w : qk_W} {nc ns : Nat} {Q : Option Value ⊕ Nat → qk_W → Nat → Nat → Prop}  (hw1 : wo w a0 11 fs2) (hf3 : fs2[0]? = some (.int n4)) (kt : n4 ≤ 0 → Ev d m_Mo_deliver 26 [some (.ref a0), o1, o2, o3, o4] st w nc ns Q) (kf : ¬ (n4 ≤ 0) → Ev d m_Mo_deliver 24 [some (.ref a0), o1, o2, o3, o4] st w nc ns Q) : Ev d m_Mo_deliver 17 [some (.ref a0), o1, o2, o3, o4] st w nc ns Q := by
  refine ev_aload_n d_Mo_deliver_17 rfl rfl ?_
  refine ev_getf d_Mo_deliver_18 fl_Mo_69 hw1.1 hw1.2 hf3 ?_
  exact ev_if_le 26 d_Mo_deliver_21 (by decide) kt kf
theorem t_Mo_deliver_24 {d : Nat} {o0 : Option Value} {o1 : Option Value} {o2 : Option Value} {o3 : Option Value} {o4 : Option Value} {w : qk_W} {nc ns : Nat} {Q : Option Value ⊕ Nat → qk_W → Nat → Nat → Prop}   (hq : Q (.inl (some (.int 0))) w nc ns) : Ev d m_Mo_deliver 24 [o0, o1, o2, o3, o4] [] w nc ns Q := by
  refine ev_iconst 0 d_Mo_deliver_24 (by decide) ?_
  exact ev_iret d_Mo_deliver_25 rfl rfl hq
theorem t_Mo_deliver_26 {d : Nat} {st : List Value} {a0 : Nat} {x1 : Int32} {o2 : Option Value} {o3 : Option Value} {o4 : Option Value} {fs2 : List Value} {w : qk_W} {nc ns : Nat} {Q : Option Value ⊕ Nat → qk_W → Nat → Nat → Prop}  (hw1 : wo w a0 11 fs2) (hk : 24 < fs2.length) (k : Ev d m_Mo_deliver 34 [some (.ref a0), some (.int x1), o2, o3, o4] st (qk_set w a0 (.inr (11, fs2.set 24 (.int (qi_rem x1 64))))) nc ns Q) : Ev d m_Mo_deliver 26 [some (.ref a0), some (.int x1), o2, o3, o4] st w nc ns Q := by
  refine ev_aload_n d_Mo_deliver_26 rfl rfl ?_
  refine ev_iload_n d_Mo_deliver_27 rfl ?_
  refine ev_bipush 64 d_Mo_deliver_28 (by decide) ?_
  refine ev_irem d_Mo_deliver_30 (by decide) ?_
  exact ev_putf d_Mo_deliver_31 fl_Mo_112 rfl hw1.1 hw1.2 hk (qk_fitI _) k
theorem t_Mo_deliver_34 {d : Nat} {st : List Value} {a0 : Nat} {o1 : Option Value} {o2 : Option Value} {o3 : Option Value} {o4 : Option Value} {fsb : List Value} {w : qk_W} {nc ns : Nat} {Q : Option Value ⊕ Nat → qk_W → Nat → Nat → Prop}  (hb : wo w a0 11 fsb) (h8 : (st.map fun v => Value.category v).sum ≤ 8) (k : Ev d m_Mo_isMessage 0 [some (.ref a0), none, none, none] [] w nc ns (fun r w1 nc1 ns1 => match r with | .inl v => Ev (d + 1) m_Mo_deliver 38 [some (.ref a0), o1, o2, o3, o4] (v.toList ++ st) w1 nc1 ns1 Q | .inr x => Q (.inr x) w1 nc1 ns1)) : Ev (d + 1) m_Mo_deliver 34 [some (.ref a0), o1, o2, o3, o4] st w nc ns Q := by
  refine ev_aload_n d_Mo_deliver_34 rfl rfl ?_
  exact ev_call (M' := m_Mo_isMessage) (As := [.ref a0]) (st := st) d_Mo_deliver_35 i_Mo_isMessage (fun h => absurd h (by decide +kernel)) cw_Mo_192 rfl rfl ⟨hb.1, 11, _, _, hb.2, rfl, rfl⟩ rfl (Nat.le_of_ble_eq_true rfl) h8 k
theorem t_Mo_deliver_38 {d : Nat} {st : List Value} {o0 : Option Value} {o1 : Option Value} {o2 : Option Value} {o3 : Option Value} {o4 : Option Value} {y0 : Int32} {w : qk_W} {nc ns : Nat} {Q : Option Value ⊕ Nat → qk_W → Nat → Nat → Prop}   (kt : ¬ y0 = 0 → Ev d m_Mo_deliver 53 [o0, o1, o2, o3, o4] st w nc ns Q) (kf : y0 = 0 → Ev d m_Mo_deliver 41 [o0, o1, o2, o3, o4] st w nc ns Q) : Ev d m_Mo_deliver 38 [o0, o1, o2, o3, o4] (.int y0 :: st) w nc ns Q := by
  exact ev_if_ne 53 d_Mo_deliver_38 (by decide) kt kf
theorem t_Mo_deliver_41 {d : Nat} {st : List Value} {a0 : Nat} {o1 : Option Value} {o2 : Option Value} {o3 : Option Value} {o4 : Option Value} {fs2 : List Value} {n4 : Int32} {w : qk_W} {nc ns : Nat} {Q : Option Value ⊕ Nat → qk_W → Nat → Nat → Prop}  (hw1 : wo w a0 11 fs2) (hf3 : fs2[21]? = some (.int n4)) (hk : 21 < fs2.length) (k : Ev d m_Mo_deliver 51 [some (.ref a0), o1, o2, o3, o4] st (qk_set w a0 (.inr (11, fs2.set 21 (.int (n4 + 1))))) nc ns Q) : Ev d m_Mo_deliver 41 [some (.ref a0), o1, o2, o3, o4] st w nc ns Q := by
  refine ev_aload_n d_Mo_deliver_41 rfl rfl ?_
  refine ev_dup d_Mo_deliver_42 rfl ?_
  refine ev_getf d_Mo_deliver_43 fl_Mo_196 hw1.1 hw1.2 hf3 ?_
  refine ev_iconst 1 d_Mo_deliver_46 (by decide) ?_
  refine ev_iadd d_Mo_deliver_47 ?_
  exact ev_putf d_Mo_deliver_48 fl_Mo_196 rfl hw1.1 hw1.2 hk (qk_fitI _) k
theorem t_Mo_deliver_51 {d : Nat} {o0 : Option Value} {o1 : Option Value} {o2 : Option Value} {o3 : Option Value} {o4 : Option Value} {w : qk_W} {nc ns : Nat} {Q : Option Value ⊕ Nat → qk_W → Nat → Nat → Prop}   (hq : Q (.inl (some (.int (-1)))) w nc ns) : Ev d m_Mo_deliver 51 [o0, o1, o2, o3, o4] [] w nc ns Q := by
  refine ev_iconst (-1) d_Mo_deliver_51 (by decide) ?_
  exact ev_iret d_Mo_deliver_52 rfl rfl hq
theorem t_Mo_deliver_53 {d : Nat} {st : List Value} {a0 : Nat} {o1 : Option Value} {o2 : Option Value} {o3 : Option Value} {o4 : Option Value} {fs2 : List Value} {c4 : Nat} {n8 : Int32} {n12 : Int64} {n20 : Nat} {f21 : Nat → Int32} {w : qk_W} {nc ns : Nat} {Q : Option Value ⊕ Nat → qk_W → Nat → Nat → Prop}  (hw1 : wo w a0 11 fs2) (hf3 : fs2[20]? = some (.ref c4)) (hf7 : fs2[26]? = some (.int n8)) (hf11 : fs2[30]? = some (.long n12)) (ha19 : wi w c4 n20 f21) (hi22 : vp_in n8 n20) (kt : (lg_cmp n12 (Int32.toInt64 (f21 n8.toNatClampNeg))) ≤ 0 → Ev d m_Mo_deliver 87 [some (.ref a0), o1, o2, o3, o4] (.int n8 :: .ref c4 :: st) w nc ns Q) (kf : ¬ ((lg_cmp n12 (Int32.toInt64 (f21 n8.toNatClampNeg))) ≤ 0) → Ev d m_Mo_deliver 79 [some (.ref a0), o1, o2, o3, o4] (.int n8 :: .ref c4 :: st) w nc ns Q) : Ev d m_Mo_deliver 53 [some (.ref a0), o1, o2, o3, o4] st w nc ns Q := by
  refine ev_aload_n d_Mo_deliver_53 rfl rfl ?_
  refine ev_getf d_Mo_deliver_54 fl_Mo_63 hw1.1 hw1.2 hf3 ?_
  refine ev_aload_n d_Mo_deliver_57 rfl rfl ?_
  refine ev_getf d_Mo_deliver_58 fl_Mo_171 hw1.1 hw1.2 hf7 ?_
  refine ev_aload_n d_Mo_deliver_61 rfl rfl ?_
  refine ev_getf d_Mo_deliver_62 fl_Mo_180 hw1.1 hw1.2 hf11 ?_
  refine ev_aload_n d_Mo_deliver_65 rfl rfl ?_
  refine ev_getf d_Mo_deliver_66 fl_Mo_63 hw1.1 hw1.2 hf3 ?_
  refine ev_aload_n d_Mo_deliver_69 rfl rfl ?_
  refine ev_getf d_Mo_deliver_70 fl_Mo_171 hw1.1 hw1.2 hf7 ?_
  refine ev_iald d_Mo_deliver_73 ha19 hi22 ?_
  refine ev_i2l d_Mo_deliver_74 ?_
  refine ev_lcmp d_Mo_deliver_75 ?_
  exact ev_if_le 87 d_Mo_deliver_76 (by decide) kt kf
theorem t_Mo_deliver_79 {d : Nat} {st : List Value} {a0 : Nat} {o1 : Option Value} {o2 : Option Value} {o3 : Option Value} {o4 : Option Value} {y0 : Int32} {b1 : Nat} {fs2 : List Value} {n4 : Int64} {n6 : Nat} {f7 : Nat → Int32} {w : qk_W} {nc ns : Nat} {Q : Option Value ⊕ Nat → qk_W → Nat → Nat → Prop}  (hw1 : wo w a0 11 fs2) (hf3 : fs2[30]? = some (.long n4)) (ha5 : wi w b1 n6 f7) (hi : vp_in y0 n6) (h16 : 16 ≤ b1) (k : Ev d m_Mo_deliver 97 [some (.ref a0), o1, o2, o3, o4] st (qk_set w b1 (.inl (.int, n6, .inl (upd f7 y0.toNatClampNeg (Int64.toInt32 n4))))) nc ns Q) : Ev d m_Mo_deliver 79 [some (.ref a0), o1, o2, o3, o4] (.int y0 :: .ref b1 :: st) w nc ns Q := by
  refine ev_aload_n d_Mo_deliver_79 rfl rfl ?_
  refine ev_getf d_Mo_deliver_80 fl_Mo_180 hw1.1 hw1.2 hf3 ?_
  refine ev_l2i d_Mo_deliver_83 ?_
  refine ev_goto 96 d_Mo_deliver_84 (by decide) ?_
  exact ev_iast d_Mo_deliver_96 h16 ha5 hi k
theorem t_Mo_deliver_87 {d : Nat} {st : List Value} {a0 : Nat} {o1 : Option Value} {o2 : Option Value} {o3 : Option Value} {o4 : Option Value} {y0 : Int32} {b1 : Nat} {fs2 : List Value} {c4 : Nat} {n8 : Int32} {n10 : Nat} {f11 : Nat → Int32} {n14 : Nat} {f15 : Nat → Int32} {w : qk_W} {nc ns : Nat} {Q : Option Value ⊕ Nat → qk_W → Nat → Nat → Prop}  (hw1 : wo w a0 11 fs2) (hf3 : fs2[20]? = some (.ref c4)) (hf7 : fs2[26]? = some (.int n8)) (ha9 : wi w c4 n10 f11) (hi12 : vp_in n8 n10) (ha13 : wi w b1 n14 f15) (hi : vp_in y0 n14) (h16 : 16 ≤ b1) (k : Ev d m_Mo_deliver 97 [some (.ref a0), o1, o2, o3, o4] st (qk_set w b1 (.inl (.int, n14, .inl (upd f15 y0.toNatClampNeg (f11 n8.toNatClampNeg))))) nc ns Q) : Ev d m_Mo_deliver 87 [some (.ref a0), o1, o2, o3, o4] (.int y0 :: .ref b1 :: st) w nc ns Q := by
  refine ev_aload_n d_Mo_deliver_87 rfl rfl ?_
  refine ev_getf d_Mo_deliver_88 fl_Mo_63 hw1.1 hw1.2 hf3 ?_
  refine ev_aload_n d_Mo_deliver_91 rfl rfl ?_
  refine ev_getf d_Mo_deliver_92 fl_Mo_171 hw1.1 hw1.2 hf7 ?_
  refine ev_iald d_Mo_deliver_95 ha9 hi12 ?_
  exact ev_iast d_Mo_deliver_96 h16 ha13 hi k
theorem t_Mo_deliver_97 {d : Nat} {st : List Value} {a0 : Nat} {o1 : Option Value} {o2 : Option Value} {o3 : Option Value} {o4 : Option Value} {fs2 : List Value} {n4 : Int32} {n8 : Int64} {w : qk_W} {nc ns : Nat} {Q : Option Value ⊕ Nat → qk_W → Nat → Nat → Prop}  (hw1 : wo w a0 11 fs2) (hf3 : fs2[26]? = some (.int n4)) (hf7 : fs2[29]? = some (.long n8)) (hc9 : qk_c2 [some (.ref a0), o1, o2, o3, o4] 2 = true) (k : Ev d m_Mo_deliver 113 [some (.ref a0), o1, some (.int ((n4 * 32768) + (Int64.toInt32 n8))), some (.int 0), o4] st w nc ns Q) : Ev d m_Mo_deliver 97 [some (.ref a0), o1, o2, o3, o4] st w nc ns Q := by
  refine ev_aload_n d_Mo_deliver_97 rfl rfl ?_
  refine ev_getf d_Mo_deliver_98 fl_Mo_171 hw1.1 hw1.2 hf3 ?_
  refine ev_ldc 32768 d_Mo_deliver_101 lc_Mo_46 ?_
  refine ev_imul d_Mo_deliver_103 ?_
  refine ev_aload_n d_Mo_deliver_104 rfl rfl ?_
  refine ev_getf d_Mo_deliver_105 fl_Mo_184 hw1.1 hw1.2 hf7 ?_
  refine ev_l2i d_Mo_deliver_108 ?_
  refine ev_iadd d_Mo_deliver_109 ?_
  refine ev_istore_n d_Mo_deliver_110 (by decide) hc9 ?_
  refine ev_iconst 0 d_Mo_deliver_111 (by decide) ?_
  refine ev_istore_n d_Mo_deliver_112 (by decide) rfl ?_
  exact k
theorem t_Mo_deliver_113 {d : Nat} {st : List Value} {a0 : Nat} {o1 : Option Value} {o2 : Option Value} {x3 : Int32} {o4 : Option Value} {fs2 : List Value} {n4 : Int32} {w : qk_W} {nc ns : Nat} {Q : Option Value ⊕ Nat → qk_W → Nat → Nat → Prop}  (hw1 : wo w a0 11 fs2) (hf3 : fs2[27]? = some (.int n4)) (kt : n4 ≤ x3 → Ev d m_Mo_deliver 168 [some (.ref a0), o1, o2, some (.int x3), o4] st w nc ns Q) (kf : ¬ (n4 ≤ x3) → Ev d m_Mo_deliver 121 [some (.ref a0), o1, o2, some (.int x3), o4] st w nc ns Q) : Ev d m_Mo_deliver 113 [some (.ref a0), o1, o2, some (.int x3), o4] st w nc ns Q := by
  refine ev_iload_n d_Mo_deliver_113 rfl ?_
  refine ev_aload_n d_Mo_deliver_114 rfl rfl ?_
  refine ev_getf d_Mo_deliver_115 fl_Mo_177 hw1.1 hw1.2 hf3 ?_
  exact ev_icmp_ge 168 d_Mo_deliver_118 (by decide) kt kf
theorem t_Mo_deliver_121 {d : Nat} {st : List Value} {a0 : Nat} {o1 : Option Value} {x2 : Int32} {x3 : Int32} {o4 : Option Value} {fs2 : List Value} {c4 : Nat} {n6 : Nat} {f7 : Nat → Int32} {w : qk_W} {nc ns : Nat} {Q : Option Value ⊕ Nat → qk_W → Nat → Nat → Prop}  (hw1 : wo w a0 11 fs2) (hf3 : fs2[19]? = some (.ref c4)) (ha5 : wb w c4 n6 f7) (hi8 : vp_in (x2 + x3) n6) (kt : (f7 (x2 + x3).toNatClampNeg) ≤ 0 → Ev d m_Mo_deliver 162 [some (.ref a0), o1, some (.int x2), some (.int x3), o4] st w nc ns Q) (kf : ¬ ((f7 (x2 + x3).toNatClampNeg) ≤ 0) → Ev d m_Mo_deliver 132 [some (.ref a0), o1, some (.int x2), some (.int x3), o4] st w nc ns Q) : Ev d m_Mo_deliver 121 [some (.ref a0), o1, some (.int x2), some (.int x3), o4] st w nc ns Q := by
  refine ev_aload_n d_Mo_deliver_121 rfl rfl ?_
  refine ev_getf d_Mo_deliver_122 fl_Mo_60 hw1.1 hw1.2 hf3 ?_
  refine ev_iload_n d_Mo_deliver_125 rfl ?_
  refine ev_iload_n d_Mo_deliver_126 rfl ?_
  refine ev_iadd d_Mo_deliver_127 ?_
  refine ev_bald d_Mo_deliver_128 ha5.1 ha5.2 hi8 ?_
  exact ev_if_le 162 d_Mo_deliver_129 (by decide) kt kf
theorem t_Mo_deliver_132 {d : Nat} {st : List Value} {a0 : Nat} {o1 : Option Value} {x2 : Int32} {x3 : Int32} {o4 : Option Value} {fs2 : List Value} {c4 : Nat} {n6 : Nat} {f7 : Nat → Int32} {c12 : Nat} {n14 : Nat} {f15 : Nat → Int32} {w : qk_W} {nc ns : Nat} {Q : Option Value ⊕ Nat → qk_W → Nat → Nat → Prop}  (hw1 : wo w a0 11 fs2) (hf3 : fs2[18]? = some (.ref c4)) (ha5 : wi w c4 n6 f7) (hi8 : vp_in (x2 + x3) n6) (hf11 : fs2[31]? = some (.ref c12)) (ha13 : wi w c12 n14 f15) (hi16 : vp_in x3 n14) (kt : (f7 (x2 + x3).toNatClampNeg) = (f15 x3.toNatClampNeg) → Ev d m_Mo_deliver 162 [some (.ref a0), o1, some (.int x2), some (.int x3), o4] st w nc ns Q) (kf : ¬ ((f7 (x2 + x3).toNatClampNeg) = (f15 x3.toNatClampNeg)) → Ev d m_Mo_deliver 149 [some (.ref a0), o1, some (.int x2), some (.int x3), o4] st w nc ns Q) : Ev d m_Mo_deliver 132 [some (.ref a0), o1, some (.int x2), some (.int x3), o4] st w nc ns Q := by
  refine ev_aload_n d_Mo_deliver_132 rfl rfl ?_
  refine ev_getf d_Mo_deliver_133 fl_Mo_57 hw1.1 hw1.2 hf3 ?_
  refine ev_iload_n d_Mo_deliver_136 rfl ?_
  refine ev_iload_n d_Mo_deliver_137 rfl ?_
  refine ev_iadd d_Mo_deliver_138 ?_
  refine ev_iald d_Mo_deliver_139 ha5 hi8 ?_
  refine ev_aload_n d_Mo_deliver_140 rfl rfl ?_
  refine ev_getf d_Mo_deliver_141 fl_Mo_66 hw1.1 hw1.2 hf11 ?_
  refine ev_iload_n d_Mo_deliver_144 rfl ?_
  refine ev_iald d_Mo_deliver_145 ha13 hi16 ?_
  exact ev_icmp_eq 162 d_Mo_deliver_146 (by decide) kt kf
theorem t_Mo_deliver_149 {d : Nat} {st : List Value} {a0 : Nat} {o1 : Option Value} {o2 : Option Value} {o3 : Option Value} {o4 : Option Value} {fs2 : List Value} {n4 : Int32} {w : qk_W} {nc ns : Nat} {Q : Option Value ⊕ Nat → qk_W → Nat → Nat → Prop}  (hw1 : wo w a0 11 fs2) (hf3 : fs2[22]? = some (.int n4)) (hk : 22 < fs2.length) (k : Ev d m_Mo_deliver 159 [some (.ref a0), o1, o2, o3, o4] st (qk_set w a0 (.inr (11, fs2.set 22 (.int (n4 + 1))))) nc ns Q) : Ev d m_Mo_deliver 149 [some (.ref a0), o1, o2, o3, o4] st w nc ns Q := by
  refine ev_aload_n d_Mo_deliver_149 rfl rfl ?_
  refine ev_dup d_Mo_deliver_150 rfl ?_
  refine ev_getf d_Mo_deliver_151 fl_Mo_199 hw1.1 hw1.2 hf3 ?_
  refine ev_iconst 1 d_Mo_deliver_154 (by decide) ?_
  refine ev_iadd d_Mo_deliver_155 ?_
  exact ev_putf d_Mo_deliver_156 fl_Mo_199 rfl hw1.1 hw1.2 hk (qk_fitI _) k
theorem t_Mo_deliver_159 {d : Nat} {o0 : Option Value} {o1 : Option Value} {o2 : Option Value} {o3 : Option Value} {o4 : Option Value} {w : qk_W} {nc ns : Nat} {Q : Option Value ⊕ Nat → qk_W → Nat → Nat → Prop}   (hq : Q (.inl (some (.int (-2)))) w nc ns) : Ev d m_Mo_deliver 159 [o0, o1, o2, o3, o4] [] w nc ns Q := by
  refine ev_bipush (-2) d_Mo_deliver_159 (by decide) ?_
  exact ev_iret d_Mo_deliver_161 rfl rfl hq
theorem t_Mo_deliver_162 {d : Nat} {st : List Value} {o0 : Option Value} {o1 : Option Value} {o2 : Option Value} {x3 : Int32} {o4 : Option Value} {w : qk_W} {nc ns : Nat} {Q : Option Value ⊕ Nat → qk_W → Nat → Nat → Prop}  (hc1 : qk_c2 [o0, o1, o2, some (.int x3), o4] 3 = true) (k : Ev d m_Mo_deliver 113 [o0, o1, o2, some (.int (x3 + 1)), o4] st w nc ns Q) : Ev d m_Mo_deliver 162 [o0, o1, o2, some (.int x3), o4] st w nc ns Q := by
  refine ev_iinc 1 d_Mo_deliver_162 (by decide) rfl (by decide) hc1 ?_
  refine ev_goto 113 d_Mo_deliver_165 (by decide) ?_
  exact k
theorem t_Mo_deliver_168 {d : Nat} {st : List Value} {o0 : Option Value} {o1 : Option Value} {o2 : Option Value} {o3 : Option Value} {o4 : Option Value} {w : qk_W} {nc ns : Nat} {Q : Option Value ⊕ Nat → qk_W → Nat → Nat → Prop}  (hc1 : qk_c2 [o0, o1, o2, o3, o4] 3 = true) (k : Ev d m_Mo_deliver 173 [o0, o1, o2, some (.int 0), some (.int 0)] st w nc ns Q) : Ev d m_Mo_deliver 168 [o0, o1, o2, o3, o4] st w nc ns Q := by
  refine ev_iconst 0 d_Mo_deliver_168 (by decide) ?_
  refine ev_istore_n d_Mo_deliver_169 (by decide) hc1 ?_
  refine ev_iconst 0 d_Mo_deliver_170 (by decide) ?_
  refine ev_istore d_Mo_deliver_171 (by decide) rfl ?_
  exact k
theorem t_Mo_deliver_173 {d : Nat} {st : List Value} {a0 : Nat} {o1 : Option Value} {o2 : Option Value} {o3 : Option Value} {x4 : Int32} {fs2 : List Value} {n4 : Int32} {w : qk_W} {nc ns : Nat} {Q : Option Value ⊕ Nat → qk_W → Nat → Nat → Prop}  (hw1 : wo w a0 11 fs2) (hf3 : fs2[27]? = some (.int n4)) (kt : n4 ≤ x4 → Ev d m_Mo_deliver 235 [some (.ref a0), o1, o2, o3, some (.int x4)] st w nc ns Q) (kf : ¬ (n4 ≤ x4) → Ev d m_Mo_deliver 182 [some (.ref a0), o1, o2, o3, some (.int x4)] st w nc ns Q) : Ev d m_Mo_deliver 173 [some (.ref a0), o1, o2, o3, some (.int x4)] st w nc ns Q := by
  refine ev_iload d_Mo_deliver_173 rfl ?_
  refine ev_aload_n d_Mo_deliver_175 rfl rfl ?_
  refine ev_getf d_Mo_deliver_176 fl_Mo_177 hw1.1 hw1.2 hf3 ?_
  exact ev_icmp_ge 235 d_Mo_deliver_179 (by decide) kt kf
theorem t_Mo_deliver_182 {d : Nat} {st : List Value} {a0 : Nat} {o1 : Option Value} {x2 : Int32} {o3 : Option Value} {x4 : Int32} {fs2 : List Value} {c4 : Nat} {n6 : Nat} {f7 : Nat → Int32} {w : qk_W} {nc ns : Nat} {Q : Option Value ⊕ Nat → qk_W → Nat → Nat → Prop}  (hw1 : wo w a0 11 fs2) (hf3 : fs2[19]? = some (.ref c4)) (ha5 : wb w c4 n6 f7) (hi8 : vp_in (x2 + x4) n6) (kt : ¬ (f7 (x2 + x4).toNatClampNeg) = 0 → Ev d m_Mo_deliver 229 [some (.ref a0), o1, some (.int x2), o3, some (.int x4)] st w nc ns Q) (kf : (f7 (x2 + x4).toNatClampNeg) = 0 → Ev d m_Mo_deliver 194 [some (.ref a0), o1, some (.int x2), o3, some (.int x4)] st w nc ns Q) : Ev d m_Mo_deliver 182 [some (.ref a0), o1, some (.int x2), o3, some (.int x4)] st w nc ns Q := by
  refine ev_aload_n d_Mo_deliver_182 rfl rfl ?_
  refine ev_getf d_Mo_deliver_183 fl_Mo_60 hw1.1 hw1.2 hf3 ?_
  refine ev_iload_n d_Mo_deliver_186 rfl ?_
  refine ev_iload d_Mo_deliver_187 rfl ?_
  refine ev_iadd d_Mo_deliver_189 ?_
  refine ev_bald d_Mo_deliver_190 ha5.1 ha5.2 hi8 ?_
  exact ev_if_ne 229 d_Mo_deliver_191 (by decide) kt kf
theorem t_Mo_deliver_194 {d : Nat} {st : List Value} {a0 : Nat} {o1 : Option Value} {x2 : Int32} {o3 : Option Value} {x4 : Int32} {fs2 : List Value} {c4 : Nat} {n8 : Int32} {n10 : Nat} {f11 : Nat → Int32} {w : qk_W} {nc ns : Nat} {Q : Option Value ⊕ Nat → qk_W → Nat → Nat → Prop}  (hw1 : wo w a0 11 fs2) (hf3 : fs2[19]? = some (.ref c4)) (hf7 : fs2[28]? = some (.int n8)) (ha9 : wb w c4 n10 f11) (hi : vp_in (x2 + x4) n10) (k : Ev d m_Mo_deliver 210 [some (.ref a0), o1, some (.int x2), o3, some (.int x4)] st (qk_set w c4 (.inl (.byte, n10, .inl (upd f11 (x2 + x4).toNatClampNeg (Int32.toInt8 ((Int32.toInt8 (n8 + 1)).toInt32)).toInt32)))) nc ns Q) : Ev d m_Mo_deliver 194 [some (.ref a0), o1, some (.int x2), o3, some (.int x4)] st w nc ns Q := by
  refine ev_aload_n d_Mo_deliver_194 rfl rfl ?_
  refine ev_getf d_Mo_deliver_195 fl_Mo_60 hw1.1 hw1.2 hf3 ?_
  refine ev_iload_n d_Mo_deliver_198 rfl ?_
  refine ev_iload d_Mo_deliver_199 rfl ?_
  refine ev_iadd d_Mo_deliver_201 ?_
  refine ev_aload_n d_Mo_deliver_202 rfl rfl ?_
  refine ev_getf d_Mo_deliver_203 fl_Mo_174 hw1.1 hw1.2 hf7 ?_
  refine ev_iconst 1 d_Mo_deliver_206 (by decide) ?_
  refine ev_iadd d_Mo_deliver_207 ?_
  refine ev_i2b d_Mo_deliver_208 ?_
  exact ev_bast d_Mo_deliver_209 ha9.1 ha9.2 hi k
theorem t_Mo_deliver_210 {d : Nat} {st : List Value} {a0 : Nat} {o1 : Option Value} {x2 : Int32} {o3 : Option Value} {x4 : Int32} {fs2 : List Value} {c4 : Nat} {c8 : Nat} {n10 : Nat} {f11 : Nat → Int32} {n14 : Nat} {f15 : Nat → Int32} {w : qk_W} {nc ns : Nat} {Q : Option Value ⊕ Nat → qk_W → Nat → Nat → Prop}  (hw1 : wo w a0 11 fs2) (hf3 : fs2[18]? = some (.ref c4)) (hf7 : fs2[31]? = some (.ref c8)) (ha9 : wi w c8 n10 f11) (hi12 : vp_in x4 n10) (ha13 : wi w c4 n14 f15) (hi : vp_in (x2 + x4) n14) (h16 : 16 ≤ c4) (k : Ev d m_Mo_deliver 226 [some (.ref a0), o1, some (.int x2), o3, some (.int x4)] st (qk_set w c4 (.inl (.int, n14, .inl (upd f15 (x2 + x4).toNatClampNeg (f11 x4.toNatClampNeg))))) nc ns Q) : Ev d m_Mo_deliver 210 [some (.ref a0), o1, some (.int x2), o3, some (.int x4)] st w nc ns Q := by
  refine ev_aload_n d_Mo_deliver_210 rfl rfl ?_
  refine ev_getf d_Mo_deliver_211 fl_Mo_57 hw1.1 hw1.2 hf3 ?_
  refine ev_iload_n d_Mo_deliver_214 rfl ?_
  refine ev_iload d_Mo_deliver_215 rfl ?_
  refine ev_iadd d_Mo_deliver_217 ?_
  refine ev_aload_n d_Mo_deliver_218 rfl rfl ?_
  refine ev_getf d_Mo_deliver_219 fl_Mo_66 hw1.1 hw1.2 hf7 ?_
  refine ev_iload d_Mo_deliver_222 rfl ?_
  refine ev_iald d_Mo_deliver_224 ha9 hi12 ?_
  exact ev_iast d_Mo_deliver_225 h16 ha13 hi k
theorem t_Mo_deliver_226 {d : Nat} {st : List Value} {o0 : Option Value} {o1 : Option Value} {o2 : Option Value} {x3 : Int32} {x4 : Int32} {w : qk_W} {nc ns : Nat} {Q : Option Value ⊕ Nat → qk_W → Nat → Nat → Prop}  (hc1 : qk_c2 [o0, o1, o2, some (.int x3), some (.int x4)] 3 = true) (k : Ev d m_Mo_deliver 173 [o0, o1, o2, some (.int (x3 + 1)), some (.int (x4 + 1))] st w nc ns Q) : Ev d m_Mo_deliver 226 [o0, o1, o2, some (.int x3), some (.int x4)] st w nc ns Q := by
  refine ev_iinc 1 d_Mo_deliver_226 (by decide) rfl (by decide) hc1 ?_
  refine ev_iinc 1 d_Mo_deliver_229 (by decide) rfl (by decide) rfl ?_
  refine ev_goto 173 d_Mo_deliver_232 (by decide) ?_
  exact k
theorem t_Mo_deliver_229 {d : Nat} {st : List Value} {o0 : Option Value} {o1 : Option Value} {o2 : Option Value} {o3 : Option Value} {x4 : Int32} {w : qk_W} {nc ns : Nat} {Q : Option Value ⊕ Nat → qk_W → Nat → Nat → Prop}  (hc1 : qk_c2 [o0, o1, o2, o3, some (.int x4)] 4 = true) (k : Ev d m_Mo_deliver 173 [o0, o1, o2, o3, some (.int (x4 + 1))] st w nc ns Q) : Ev d m_Mo_deliver 229 [o0, o1, o2, o3, some (.int x4)] st w nc ns Q := by
  refine ev_iinc 1 d_Mo_deliver_229 (by decide) rfl (by decide) hc1 ?_
  refine ev_goto 173 d_Mo_deliver_232 (by decide) ?_
  exact k
theorem t_Mo_deliver_235 {d : Nat} {o0 : Option Value} {o1 : Option Value} {o2 : Option Value} {x3 : Int32} {o4 : Option Value} {w : qk_W} {nc ns : Nat} {Q : Option Value ⊕ Nat → qk_W → Nat → Nat → Prop}   (hq : Q (.inl (some (.int x3))) w nc ns) : Ev d m_Mo_deliver 235 [o0, o1, o2, some (.int x3), o4] [] w nc ns Q := by
  refine ev_iload_n d_Mo_deliver_235 rfl ?_
  exact ev_iret d_Mo_deliver_236 rfl rfl hq
/-! Mo_isMessage -/
theorem ll_Mo_187 : Cond.constantLong "QuakeLinkModel" 187 (32768) ∈ lw_tbl := (lw_i5 _ (List.mem_of_getElem? (i := 183) rfl))
theorem cw_Mo_189 : qk_cw "QuakeLinkModel" m_Mo_isRead.1 (.invokevirtual 189) := ⟨(lw_i5 _ (List.mem_of_getElem? (i := 184) rfl)), (lw_i5 _ (List.mem_of_getElem? (i := 186) rfl)), (lw_i0 _ (List.mem_of_getElem? (i := 41) rfl))⟩
theorem d_Mo_isMessage_0 : decode m_Mo_isMessage.2.1 0 = .ok (.aload_n 0, 1) := by decide +kernel
theorem d_Mo_isMessage_1 : decode m_Mo_isMessage.2.1 1 = .ok (.getfield 51, 3) := by decide +kernel
theorem d_Mo_isMessage_4 : decode m_Mo_isMessage.2.1 4 = .ok (.aload_n 0, 1) := by decide +kernel
theorem d_Mo_isMessage_5 : decode m_Mo_isMessage.2.1 5 = .ok (.getfield 112, 3) := by decide +kernel
theorem d_Mo_isMessage_8 : decode m_Mo_isMessage.2.1 8 = .ok (.iaload, 1) := by decide +kernel
theorem d_Mo_isMessage_9 : decode m_Mo_isMessage.2.1 9 = .ok (.istore_n 1, 1) := by decide +kernel
theorem d_Mo_isMessage_10 : decode m_Mo_isMessage.2.1 10 = .ok (.iload_n 1, 1) := by decide +kernel
theorem d_Mo_isMessage_11 : decode m_Mo_isMessage.2.1 11 = .ok (.bipush 24, 2) := by decide +kernel
theorem d_Mo_isMessage_13 : decode m_Mo_isMessage.2.1 13 = .ok (.if_icmp .lt 11, 3) := by decide +kernel
theorem d_Mo_isMessage_16 : decode m_Mo_isMessage.2.1 16 = .ok (.aload_n 0, 1) := by decide +kernel
theorem d_Mo_isMessage_17 : decode m_Mo_isMessage.2.1 17 = .ok (.iload_n 1, 1) := by decide +kernel
theorem d_Mo_isMessage_18 : decode m_Mo_isMessage.2.1 18 = .ok (.invokevirtual 165, 3) := by decide +kernel
theorem d_Mo_isMessage_21 : decode m_Mo_isMessage.2.1 21 = .ok (.ifCond .ne 5, 3) := by decide +kernel
theorem d_Mo_isMessage_24 : decode m_Mo_isMessage.2.1 24 = .ok (.iconst 0, 1) := by decide +kernel
theorem d_Mo_isMessage_25 : decode m_Mo_isMessage.2.1 25 = .ok (.ireturn, 1) := by decide +kernel
theorem d_Mo_isMessage_26 : decode m_Mo_isMessage.2.1 26 = .ok (.aload_n 0, 1) := by decide +kernel
theorem d_Mo_isMessage_27 : decode m_Mo_isMessage.2.1 27 = .ok (.iconst 0, 1) := by decide +kernel
theorem d_Mo_isMessage_28 : decode m_Mo_isMessage.2.1 28 = .ok (.putfield 115, 3) := by decide +kernel
theorem d_Mo_isMessage_31 : decode m_Mo_isMessage.2.1 31 = .ok (.aload_n 0, 1) := by decide +kernel
theorem d_Mo_isMessage_32 : decode m_Mo_isMessage.2.1 32 = .ok (.aload_n 0, 1) := by decide +kernel
theorem d_Mo_isMessage_33 : decode m_Mo_isMessage.2.1 33 = .ok (.bipush 8, 2) := by decide +kernel
theorem d_Mo_isMessage_35 : decode m_Mo_isMessage.2.1 35 = .ok (.invokevirtual 161, 3) := by decide +kernel
theorem d_Mo_isMessage_38 : decode m_Mo_isMessage.2.1 38 = .ok (.l2i, 1) := by decide +kernel
theorem d_Mo_isMessage_39 : decode m_Mo_isMessage.2.1 39 = .ok (.putfield 171, 3) := by decide +kernel
theorem d_Mo_isMessage_42 : decode m_Mo_isMessage.2.1 42 = .ok (.aload_n 0, 1) := by decide +kernel
theorem d_Mo_isMessage_43 : decode m_Mo_isMessage.2.1 43 = .ok (.aload_n 0, 1) := by decide +kernel
theorem d_Mo_isMessage_44 : decode m_Mo_isMessage.2.1 44 = .ok (.bipush 8, 2) := by decide +kernel
theorem d_Mo_isMessage_46 : decode m_Mo_isMessage.2.1 46 = .ok (.invokevirtual 161, 3) := by decide +kernel
theorem d_Mo_isMessage_49 : decode m_Mo_isMessage.2.1 49 = .ok (.l2i, 1) := by decide +kernel
theorem d_Mo_isMessage_50 : decode m_Mo_isMessage.2.1 50 = .ok (.putfield 174, 3) := by decide +kernel
theorem d_Mo_isMessage_53 : decode m_Mo_isMessage.2.1 53 = .ok (.aload_n 0, 1) := by decide +kernel
theorem d_Mo_isMessage_54 : decode m_Mo_isMessage.2.1 54 = .ok (.aload_n 0, 1) := by decide +kernel
theorem d_Mo_isMessage_55 : decode m_Mo_isMessage.2.1 55 = .ok (.bipush 16, 2) := by decide +kernel
theorem d_Mo_isMessage_57 : decode m_Mo_isMessage.2.1 57 = .ok (.invokevirtual 161, 3) := by decide +kernel
theorem d_Mo_isMessage_60 : decode m_Mo_isMessage.2.1 60 = .ok (.l2i, 1) := by decide +kernel
theorem d_Mo_isMessage_61 : decode m_Mo_isMessage.2.1 61 = .ok (.putfield 177, 3) := by decide +kernel
theorem d_Mo_isMessage_64 : decode m_Mo_isMessage.2.1 64 = .ok (.aload_n 0, 1) := by decide +kernel
theorem d_Mo_isMessage_65 : decode m_Mo_isMessage.2.1 65 = .ok (.aload_n 0, 1) := by decide +kernel
theorem d_Mo_isMessage_66 : decode m_Mo_isMessage.2.1 66 = .ok (.bipush 32, 2) := by decide +kernel
theorem d_Mo_isMessage_68 : decode m_Mo_isMessage.2.1 68 = .ok (.invokevirtual 161, 3) := by decide +kernel
theorem d_Mo_isMessage_71 : decode m_Mo_isMessage.2.1 71 = .ok (.putfield 180, 3) := by decide +kernel
theorem d_Mo_isMessage_74 : decode m_Mo_isMessage.2.1 74 = .ok (.aload_n 0, 1) := by decide +kernel
theorem d_Mo_isMessage_75 : decode m_Mo_isMessage.2.1 75 = .ok (.aload_n 0, 1) := by decide +kernel
theorem d_Mo_isMessage_76 : decode m_Mo_isMessage.2.1 76 = .ok (.bipush 32, 2) := by decide +kernel
theorem d_Mo_isMessage_78 : decode m_Mo_isMessage.2.1 78 = .ok (.invokevirtual 161, 3) := by decide +kernel
theorem d_Mo_isMessage_81 : decode m_Mo_isMessage.2.1 81 = .ok (.putfield 184, 3) := by decide +kernel
theorem d_Mo_isMessage_84 : decode m_Mo_isMessage.2.1 84 = .ok (.aload_n 0, 1) := by decide +kernel
theorem d_Mo_isMessage_85 : decode m_Mo_isMessage.2.1 85 = .ok (.bipush 32, 2) := by decide +kernel
theorem d_Mo_isMessage_87 : decode m_Mo_isMessage.2.1 87 = .ok (.invokevirtual 161, 3) := by decide +kernel
theorem d_Mo_isMessage_90 : decode m_Mo_isMessage.2.1 90 = .ok (.l2i, 1) := by decide +kernel
theorem d_Mo_isMessage_91 : decode m_Mo_isMessage.2.1 91 = .ok (.istore_n 2, 1) := by decide +kernel
theorem d_Mo_isMessage_92 : decode m_Mo_isMessage.2.1 92 = .ok (.aload_n 0, 1) := by decide +kernel
theorem d_Mo_isMessage_93 : decode m_Mo_isMessage.2.1 93 = .ok (.bipush 32, 2) := by decide +kernel
theorem d_Mo_isMessage_95 : decode m_Mo_isMessage.2.1 95 = .ok (.invokevirtual 161, 3) := by decide +kernel
theorem d_Mo_isMessage_98 : decode m_Mo_isMessage.2.1 98 = .ok (.l2i, 1) := by decide +kernel
theorem d_Mo_isMessage_99 : decode m_Mo_isMessage.2.1 99 = .ok (.istore_n 3, 1) := by decide +kernel
theorem d_Mo_isMessage_100 : decode m_Mo_isMessage.2.1 100 = .ok (.aload_n 0, 1) := by decide +kernel
theorem d_Mo_isMessage_101 : decode m_Mo_isMessage.2.1 101 = .ok (.getfield 171, 3) := by decide +kernel
theorem d_Mo_isMessage_104 : decode m_Mo_isMessage.2.1 104 = .ok (.iconst 3, 1) := by decide +kernel
theorem d_Mo_isMessage_105 : decode m_Mo_isMessage.2.1 105 = .ok (.if_icmp .gt 12, 3) := by decide +kernel
theorem d_Mo_isMessage_108 : decode m_Mo_isMessage.2.1 108 = .ok (.aload_n 0, 1) := by decide +kernel
theorem d_Mo_isMessage_109 : decode m_Mo_isMessage.2.1 109 = .ok (.getfield 174, 3) := by decide +kernel
theorem d_Mo_isMessage_112 : decode m_Mo_isMessage.2.1 112 = .ok (.bipush 100, 2) := by decide +kernel
theorem d_Mo_isMessage_114 : decode m_Mo_isMessage.2.1 114 = .ok (.if_icmp .le 5, 3) := by decide +kernel
theorem d_Mo_isMessage_117 : decode m_Mo_isMessage.2.1 117 = .ok (.iconst 0, 1) := by decide +kernel
theorem d_Mo_isMessage_118 : decode m_Mo_isMessage.2.1 118 = .ok (.ireturn, 1) := by decide +kernel
theorem d_Mo_isMessage_119 : decode m_Mo_isMessage.2.1 119 = .ok (.aload_n 0, 1) := by decide +kernel
theorem d_Mo_isMessage_120 : decode m_Mo_isMessage.2.1 120 = .ok (.getfield 177, 3) := by decide +kernel
theorem d_Mo_isMessage_123 : decode m_Mo_isMessage.2.1 123 = .ok (.ifCond .ne 50, 3) := by decide +kernel
theorem d_Mo_isMessage_126 : decode m_Mo_isMessage.2.1 126 = .ok (.iload_n 1, 1) := by decide +kernel
theorem d_Mo_isMessage_127 : decode m_Mo_isMessage.2.1 127 = .ok (.bipush 24, 2) := by decide +kernel
theorem d_Mo_isMessage_129 : decode m_Mo_isMessage.2.1 129 = .ok (.if_icmp .ne 42, 3) := by decide +kernel
theorem d_Mo_isMessage_132 : decode m_Mo_isMessage.2.1 132 = .ok (.aload_n 0, 1) := by decide +kernel
theorem d_Mo_isMessage_133 : decode m_Mo_isMessage.2.1 133 = .ok (.getfield 174, 3) := by decide +kernel
theorem d_Mo_isMessage_136 : decode m_Mo_isMessage.2.1 136 = .ok (.ifCond .ne 35, 3) := by decide +kernel
theorem d_Mo_isMessage_139 : decode m_Mo_isMessage.2.1 139 = .ok (.aload_n 0, 1) := by decide +kernel
theorem d_Mo_isMessage_140 : decode m_Mo_isMessage.2.1 140 = .ok (.getfield 184, 3) := by decide +kernel
theorem d_Mo_isMessage_143 : decode m_Mo_isMessage.2.1 143 = .ok (.lconst 0, 1) := by decide +kernel
theorem d_Mo_isMessage_144 : decode m_Mo_isMessage.2.1 144 = .ok (.lcmp, 1) := by decide +kernel
theorem d_Mo_isMessage_145 : decode m_Mo_isMessage.2.1 145 = .ok (.ifCond .ne 26, 3) := by decide +kernel
theorem d_Mo_isMessage_148 : decode m_Mo_isMessage.2.1 148 = .ok (.iload_n 2, 1) := by decide +kernel
theorem d_Mo_isMessage_149 : decode m_Mo_isMessage.2.1 149 = .ok (.ifCond .ne 22, 3) := by decide +kernel
theorem d_Mo_isMessage_152 : decode m_Mo_isMessage.2.1 152 = .ok (.iload_n 3, 1) := by decide +kernel
theorem d_Mo_isMessage_153 : decode m_Mo_isMessage.2.1 153 = .ok (.ifCond .ne 18, 3) := by decide +kernel
theorem d_Mo_isMessage_156 : decode m_Mo_isMessage.2.1 156 = .ok (.aload_n 0, 1) := by decide +kernel
theorem d_Mo_isMessage_157 : decode m_Mo_isMessage.2.1 157 = .ok (.getfield 180, 3) := by decide +kernel
theorem d_Mo_isMessage_160 : decode m_Mo_isMessage.2.1 160 = .ok (.ldc2_w 187, 3) := by decide +kernel
theorem d_Mo_isMessage_163 : decode m_Mo_isMessage.2.1 163 = .ok (.lcmp, 1) := by decide +kernel
theorem d_Mo_isMessage_164 : decode m_Mo_isMessage.2.1 164 = .ok (.ifCond .gt 7, 3) := by decide +kernel
theorem d_Mo_isMessage_167 : decode m_Mo_isMessage.2.1 167 = .ok (.iconst 1, 1) := by decide +kernel
theorem d_Mo_isMessage_168 : decode m_Mo_isMessage.2.1 168 = .ok (.goto 4, 3) := by decide +kernel
theorem d_Mo_isMessage_171 : decode m_Mo_isMessage.2.1 171 = .ok (.iconst 0, 1) := by decide +kernel
theorem d_Mo_isMessage_172 : decode m_Mo_isMessage.2.1 172 = .ok (.ireturn, 1) := by decide +kernel
theorem d_Mo_isMessage_173 : decode m_Mo_isMessage.2.1 173 = .ok (.aload_n 0, 1) := by decide +kernel
theorem d_Mo_isMessage_174 : decode m_Mo_isMessage.2.1 174 = .ok (.getfield 184, 3) := by decide +kernel
theorem d_Mo_isMessage_177 : decode m_Mo_isMessage.2.1 177 = .ok (.aload_n 0, 1) := by decide +kernel
theorem d_Mo_isMessage_178 : decode m_Mo_isMessage.2.1 178 = .ok (.getfield 177, 3) := by decide +kernel
theorem d_Mo_isMessage_181 : decode m_Mo_isMessage.2.1 181 = .ok (.i2l, 1) := by decide +kernel
theorem d_Mo_isMessage_182 : decode m_Mo_isMessage.2.1 182 = .ok (.ladd, 1) := by decide +kernel
theorem d_Mo_isMessage_183 : decode m_Mo_isMessage.2.1 183 = .ok (.ldc2_w 187, 3) := by decide +kernel
theorem d_Mo_isMessage_186 : decode m_Mo_isMessage.2.1 186 = .ok (.lcmp, 1) := by decide +kernel
theorem d_Mo_isMessage_187 : decode m_Mo_isMessage.2.1 187 = .ok (.ifCond .gt 23, 3) := by decide +kernel
theorem d_Mo_isMessage_190 : decode m_Mo_isMessage.2.1 190 = .ok (.aload_n 0, 1) := by decide +kernel
theorem d_Mo_isMessage_191 : decode m_Mo_isMessage.2.1 191 = .ok (.getfield 180, 3) := by decide +kernel
theorem d_Mo_isMessage_194 : decode m_Mo_isMessage.2.1 194 = .ok (.aload_n 0, 1) := by decide +kernel
theorem d_Mo_isMessage_195 : decode m_Mo_isMessage.2.1 195 = .ok (.getfield 184, 3) := by decide +kernel
theorem d_Mo_isMessage_198 : decode m_Mo_isMessage.2.1 198 = .ok (.aload_n 0, 1) := by decide +kernel
theorem d_Mo_isMessage_199 : decode m_Mo_isMessage.2.1 199 = .ok (.getfield 177, 3) := by decide +kernel
theorem d_Mo_isMessage_202 : decode m_Mo_isMessage.2.1 202 = .ok (.i2l, 1) := by decide +kernel
theorem d_Mo_isMessage_203 : decode m_Mo_isMessage.2.1 203 = .ok (.ladd, 1) := by decide +kernel
theorem d_Mo_isMessage_204 : decode m_Mo_isMessage.2.1 204 = .ok (.lconst 1, 1) := by decide +kernel
theorem d_Mo_isMessage_205 : decode m_Mo_isMessage.2.1 205 = .ok (.lsub, 1) := by decide +kernel
theorem d_Mo_isMessage_206 : decode m_Mo_isMessage.2.1 206 = .ok (.lcmp, 1) := by decide +kernel
theorem d_Mo_isMessage_207 : decode m_Mo_isMessage.2.1 207 = .ok (.ifCond .le 5, 3) := by decide +kernel
theorem d_Mo_isMessage_210 : decode m_Mo_isMessage.2.1 210 = .ok (.iconst 0, 1) := by decide +kernel
theorem d_Mo_isMessage_211 : decode m_Mo_isMessage.2.1 211 = .ok (.ireturn, 1) := by decide +kernel
theorem d_Mo_isMessage_212 : decode m_Mo_isMessage.2.1 212 = .ok (.aload_n 0, 1) := by decide +kernel
theorem d_Mo_isMessage_213 : decode m_Mo_isMessage.2.1 213 = .ok (.iload_n 2, 1) := by decide +kernel
theorem d_Mo_isMessage_214 : decode m_Mo_isMessage.2.1 214 = .ok (.bipush 8, 2) := by decide +kernel
theorem d_Mo_isMessage_216 : decode m_Mo_isMessage.2.1 216 = .ok (.iload_n 1, 1) := by decide +kernel
theorem d_Mo_isMessage_217 : decode m_Mo_isMessage.2.1 217 = .ok (.iconst 4, 1) := by decide +kernel
theorem d_Mo_isMessage_218 : decode m_Mo_isMessage.2.1 218 = .ok (.isub, 1) := by decide +kernel
theorem d_Mo_isMessage_219 : decode m_Mo_isMessage.2.1 219 = .ok (.imul, 1) := by decide +kernel
theorem d_Mo_isMessage_220 : decode m_Mo_isMessage.2.1 220 = .ok (.invokevirtual 189, 3) := by decide +kernel
theorem d_Mo_isMessage_223 : decode m_Mo_isMessage.2.1 223 = .ok (.ifCond .eq 22, 3) := by decide +kernel
theorem d_Mo_isMessage_226 : decode m_Mo_isMessage.2.1 226 = .ok (.aload_n 0, 1) := by decide +kernel
theorem d_Mo_isMessage_227 : decode m_Mo_isMessage.2.1 227 = .ok (.getfield 66, 3) := by decide +kernel
theorem d_Mo_isMessage_230 : decode m_Mo_isMessage.2.1 230 = .ok (.aload_n 0, 1) := by decide +kernel
theorem d_Mo_isMessage_231 : decode m_Mo_isMessage.2.1 231 = .ok (.getfield 177, 3) := by decide +kernel
theorem d_Mo_isMessage_234 : decode m_Mo_isMessage.2.1 234 = .ok (.iconst 1, 1) := by decide +kernel
theorem d_Mo_isMessage_235 : decode m_Mo_isMessage.2.1 235 = .ok (.isub, 1) := by decide +kernel
theorem d_Mo_isMessage_236 : decode m_Mo_isMessage.2.1 236 = .ok (.iaload, 1) := by decide +kernel
theorem d_Mo_isMessage_237 : decode m_Mo_isMessage.2.1 237 = .ok (.iload_n 3, 1) := by decide +kernel
theorem d_Mo_isMessage_238 : decode m_Mo_isMessage.2.1 238 = .ok (.if_icmp .ne 7, 3) := by decide +kernel
theorem d_Mo_isMessage_241 : decode m_Mo_isMessage.2.1 241 = .ok (.iconst 1, 1) := by decide +kernel
theorem d_Mo_isMessage_242 : decode m_Mo_isMessage.2.1 242 = .ok (.goto 4, 3) := by decide +kernel
theorem d_Mo_isMessage_245 : decode m_Mo_isMessage.2.1 245 = .ok (.iconst 0, 1) := by decide +kernel
theorem d_Mo_isMessage_246 : decode m_Mo_isMessage.2.1 246 = .ok (.ireturn, 1) := by decide +kernel
theorem t_Mo_isMessage_0 {d : Nat} {st : List Value} {a0 : Nat} {o1 : Option Value} {o2 : Option Value} {o3 : Option Value} {fs2 : List Value} {c4 : Nat} {n8 : Int32} {n10 : Nat} {f11 : Nat → Int32} {w : qk_W} {nc ns : Nat} {Q : Option Value ⊕ Nat → qk_W → Nat → Nat → Prop}  (hw1 : wo w a0 11 fs2) (hf3 : fs2[15]? = some (.ref c4)) (hf7 : fs2[24]? = some (.int n8)) (ha9 : wi w c4 n10 f11) (hi12 : vp_in n8 n10) (kt : (f11 n8.toNatClampNeg) < (24 : Int32) → Ev d m_Mo_isMessage 24 [some (.ref a0), some (.int (f11 n8.toNatClampNeg)), o2, o3] st w nc ns Q) (kf : ¬ ((f11 n8.toNatClampNeg) < (24 : Int32)) → Ev d m_Mo_isMessage 16 [some (.ref a0), some (.int (f11 n8.toNatClampNeg)), o2, o3] st w nc ns Q) : Ev d m_Mo_isMessage 0 [some (.ref a0), o1, o2, o3] st w nc ns Q := by
  refine ev_aload_n d_Mo_isMessage_0 rfl rfl ?_
  refine ev_getf d_Mo_isMessage_1 fl_Mo_51 hw1.1 hw1.2 hf3 ?_
  refine ev_aload_n d_Mo_isMessage_4 rfl rfl ?_
  refine ev_getf d_Mo_isMessage_5 fl_Mo_112 hw1.1 hw1.2 hf7 ?_
  refine ev_iald d_Mo_isMessage_8 ha9 hi12 ?_
  refine ev_istore_n d_Mo_isMessage_9 (by decide) rfl ?_
  refine ev_iload_n d_Mo_isMessage_10 rfl ?_
  refine ev_bipush 24 d_Mo_isMessage_11 (by decide) ?_
  exact ev_icmp_lt 24 d_Mo_isMessage_13 (by decide) kt kf
theorem t_Mo_isMessage_16 {d : Nat} {st : List Value} {a0 : Nat} {x1 : Int32} {o2 : Option Value} {o3 : Option Value} {fsb : List Value} {w : qk_W} {nc ns : Nat} {Q : Option Value ⊕ Nat → qk_W → Nat → Nat → Prop}  (hb : wo w a0 11 fsb) (h8 : (st.map fun v => Value.category v).sum ≤ 8) (k : Ev d m_Mo_isChecked 0 [some (.ref a0), some (.int x1)] [] w nc ns (fun r w1 nc1 ns1 => match r with | .inl v => Ev (d + 1) m_Mo_isMessage 21 [some (.ref a0), some (.int x1), o2, o3] (v.toList ++ st) w1 nc1 ns1 Q | .inr x => Q (.inr x) w1 nc1 ns1)) : Ev (d + 1) m_Mo_isMessage 16 [some (.ref a0), some (.int x1), o2, o3] st w nc ns Q := by
  refine ev_aload_n d_Mo_isMessage_16 rfl rfl ?_
  refine ev_iload_n d_Mo_isMessage_17 rfl ?_
  exact ev_call (M' := m_Mo_isChecked) (As := [.ref a0, .int x1]) (st := st) d_Mo_isMessage_18 i_Mo_isChecked (fun h => absurd h (by decide +kernel)) cw_Mo_165 rfl rfl ⟨hb.1, 11, _, _, hb.2, rfl, rfl⟩ rfl (Nat.le_of_ble_eq_true rfl) h8 k
theorem t_Mo_isMessage_21 {d : Nat} {st : List Value} {o0 : Option Value} {o1 : Option Value} {o2 : Option Value} {o3 : Option Value} {y0 : Int32} {w : qk_W} {nc ns : Nat} {Q : Option Value ⊕ Nat → qk_W → Nat → Nat → Prop}   (kt : ¬ y0 = 0 → Ev d m_Mo_isMessage 26 [o0, o1, o2, o3] st w nc ns Q) (kf : y0 = 0 → Ev d m_Mo_isMessage 24 [o0, o1, o2, o3] st w nc ns Q) : Ev d m_Mo_isMessage 21 [o0, o1, o2, o3] (.int y0 :: st) w nc ns Q := by
  exact ev_if_ne 26 d_Mo_isMessage_21 (by decide) kt kf
theorem t_Mo_isMessage_24 {d : Nat} {o0 : Option Value} {o1 : Option Value} {o2 : Option Value} {o3 : Option Value} {w : qk_W} {nc ns : Nat} {Q : Option Value ⊕ Nat → qk_W → Nat → Nat → Prop}   (hq : Q (.inl (some (.int 0))) w nc ns) : Ev d m_Mo_isMessage 24 [o0, o1, o2, o3] [] w nc ns Q := by
  refine ev_iconst 0 d_Mo_isMessage_24 (by decide) ?_
  exact ev_iret d_Mo_isMessage_25 rfl rfl hq
theorem t_Mo_isMessage_26 {d : Nat} {st : List Value} {a0 : Nat} {o1 : Option Value} {o2 : Option Value} {o3 : Option Value} {fs2 : List Value} {w : qk_W} {nc ns : Nat} {Q : Option Value ⊕ Nat → qk_W → Nat → Nat → Prop}  (hw1 : wo w a0 11 fs2) (hk : 25 < fs2.length) (k : Ev d m_Mo_isMessage 31 [some (.ref a0), o1, o2, o3] st (qk_set w a0 (.inr (11, fs2.set 25 (.int 0)))) nc ns Q) : Ev d m_Mo_isMessage 26 [some (.ref a0), o1, o2, o3] st w nc ns Q := by
  refine ev_aload_n d_Mo_isMessage_26 rfl rfl ?_
  refine ev_iconst 0 d_Mo_isMessage_27 (by decide) ?_
  exact ev_putf d_Mo_isMessage_28 fl_Mo_115 rfl hw1.1 hw1.2 hk (qk_fitI _) k
theorem t_Mo_isMessage_31 {d : Nat} {st : List Value} {a0 : Nat} {o1 : Option Value} {o2 : Option Value} {o3 : Option Value} {fsb : List Value} {w : qk_W} {nc ns : Nat} {Q : Option Value ⊕ Nat → qk_W → Nat → Nat → Prop}  (hb : wo w a0 11 fsb) (h8 : ((.ref a0 :: st).map fun v => Value.category v).sum ≤ 8) (k : Ev d m_Mo_get 0 [some (.ref a0), some (.int 8), none, none, none] [] w nc ns (fun r w1 nc1 ns1 => match r with | .inl v => Ev (d + 1) m_Mo_isMessage 38 [some (.ref a0), o1, o2, o3] (v.toList ++ (.ref a0 :: st)) w1 nc1 ns1 Q | .inr x => Q (.inr x) w1 nc1 ns1)) : Ev (d + 1) m_Mo_isMessage 31 [some (.ref a0), o1, o2, o3] st w nc ns Q := by
  refine ev_aload_n d_Mo_isMessage_31 rfl rfl ?_
  refine ev_aload_n d_Mo_isMessage_32 rfl rfl ?_
  refine ev_bipush 8 d_Mo_isMessage_33 (by decide) ?_
  exact ev_call (M' := m_Mo_get) (As := [.ref a0, .int 8]) (st := (.ref a0 :: st)) d_Mo_isMessage_35 i_Mo_get (fun h => absurd h (by decide +kernel)) cw_Mo_161 rfl rfl ⟨hb.1, 11, _, _, hb.2, rfl, rfl⟩ rfl (Nat.le_of_ble_eq_true rfl) h8 k
theorem t_Mo_isMessage_38 {d : Nat} {st : List Value} {o0 : Option Value} {o1 : Option Value} {o2 : Option Value} {o3 : Option Value} {y0 : Int64} {b1 : Nat} {fs2 : List Value} {w : qk_W} {nc ns : Nat} {Q : Option Value ⊕ Nat → qk_W → Nat → Nat → Prop}  (hw1 : wo w b1 11 fs2) (hk : 26 < fs2.length) (k : Ev d m_Mo_isMessage 42 [o0, o1, o2, o3] st (qk_set w b1 (.inr (11, fs2.set 26 (.int (Int64.toInt32 y0))))) nc ns Q) : Ev d m_Mo_isMessage 38 [o0, o1, o2, o3] (.long y0 :: .ref b1 :: st) w nc ns Q := by
  refine ev_l2i d_Mo_isMessage_38 ?_
  exact ev_putf d_Mo_isMessage_39 fl_Mo_171 rfl hw1.1 hw1.2 hk (qk_fitI _) k
theorem t_Mo_isMessage_42 {d : Nat} {st : List Value} {a0 : Nat} {o1 : Option Value} {o2 : Option Value} {o3 : Option Value} {fsb : List Value} {w : qk_W} {nc ns : Nat} {Q : Option Value ⊕ Nat → qk_W → Nat → Nat → Prop}  (hb : wo w a0 11 fsb) (h8 : ((.ref a0 :: st).map fun v => Value.category v).sum ≤ 8) (k : Ev d m_Mo_get 0 [some (.ref a0), some (.int 8), none, none, none] [] w nc ns (fun r w1 nc1 ns1 => match r with | .inl v => Ev (d + 1) m_Mo_isMessage 49 [some (.ref a0), o1, o2, o3] (v.toList ++ (.ref a0 :: st)) w1 nc1 ns1 Q | .inr x => Q (.inr x) w1 nc1 ns1)) : Ev (d + 1) m_Mo_isMessage 42 [some (.ref a0), o1, o2, o3] st w nc ns Q := by
  refine ev_aload_n d_Mo_isMessage_42 rfl rfl ?_
  refine ev_aload_n d_Mo_isMessage_43 rfl rfl ?_
  refine ev_bipush 8 d_Mo_isMessage_44 (by decide) ?_
  exact ev_call (M' := m_Mo_get) (As := [.ref a0, .int 8]) (st := (.ref a0 :: st)) d_Mo_isMessage_46 i_Mo_get (fun h => absurd h (by decide +kernel)) cw_Mo_161 rfl rfl ⟨hb.1, 11, _, _, hb.2, rfl, rfl⟩ rfl (Nat.le_of_ble_eq_true rfl) h8 k
theorem t_Mo_isMessage_49 {d : Nat} {st : List Value} {o0 : Option Value} {o1 : Option Value} {o2 : Option Value} {o3 : Option Value} {y0 : Int64} {b1 : Nat} {fs2 : List Value} {w : qk_W} {nc ns : Nat} {Q : Option Value ⊕ Nat → qk_W → Nat → Nat → Prop}  (hw1 : wo w b1 11 fs2) (hk : 28 < fs2.length) (k : Ev d m_Mo_isMessage 53 [o0, o1, o2, o3] st (qk_set w b1 (.inr (11, fs2.set 28 (.int (Int64.toInt32 y0))))) nc ns Q) : Ev d m_Mo_isMessage 49 [o0, o1, o2, o3] (.long y0 :: .ref b1 :: st) w nc ns Q := by
  refine ev_l2i d_Mo_isMessage_49 ?_
  exact ev_putf d_Mo_isMessage_50 fl_Mo_174 rfl hw1.1 hw1.2 hk (qk_fitI _) k
theorem t_Mo_isMessage_53 {d : Nat} {st : List Value} {a0 : Nat} {o1 : Option Value} {o2 : Option Value} {o3 : Option Value} {fsb : List Value} {w : qk_W} {nc ns : Nat} {Q : Option Value ⊕ Nat → qk_W → Nat → Nat → Prop}  (hb : wo w a0 11 fsb) (h8 : ((.ref a0 :: st).map fun v => Value.category v).sum ≤ 8) (k : Ev d m_Mo_get 0 [some (.ref a0), some (.int 16), none, none, none] [] w nc ns (fun r w1 nc1 ns1 => match r with | .inl v => Ev (d + 1) m_Mo_isMessage 60 [some (.ref a0), o1, o2, o3] (v.toList ++ (.ref a0 :: st)) w1 nc1 ns1 Q | .inr x => Q (.inr x) w1 nc1 ns1)) : Ev (d + 1) m_Mo_isMessage 53 [some (.ref a0), o1, o2, o3] st w nc ns Q := by
  refine ev_aload_n d_Mo_isMessage_53 rfl rfl ?_
  refine ev_aload_n d_Mo_isMessage_54 rfl rfl ?_
  refine ev_bipush 16 d_Mo_isMessage_55 (by decide) ?_
  exact ev_call (M' := m_Mo_get) (As := [.ref a0, .int 16]) (st := (.ref a0 :: st)) d_Mo_isMessage_57 i_Mo_get (fun h => absurd h (by decide +kernel)) cw_Mo_161 rfl rfl ⟨hb.1, 11, _, _, hb.2, rfl, rfl⟩ rfl (Nat.le_of_ble_eq_true rfl) h8 k
theorem t_Mo_isMessage_60 {d : Nat} {st : List Value} {o0 : Option Value} {o1 : Option Value} {o2 : Option Value} {o3 : Option Value} {y0 : Int64} {b1 : Nat} {fs2 : List Value} {w : qk_W} {nc ns : Nat} {Q : Option Value ⊕ Nat → qk_W → Nat → Nat → Prop}  (hw1 : wo w b1 11 fs2) (hk : 27 < fs2.length) (k : Ev d m_Mo_isMessage 64 [o0, o1, o2, o3] st (qk_set w b1 (.inr (11, fs2.set 27 (.int (Int64.toInt32 y0))))) nc ns Q) : Ev d m_Mo_isMessage 60 [o0, o1, o2, o3] (.long y0 :: .ref b1 :: st) w nc ns Q := by
  refine ev_l2i d_Mo_isMessage_60 ?_
  exact ev_putf d_Mo_isMessage_61 fl_Mo_177 rfl hw1.1 hw1.2 hk (qk_fitI _) k
theorem t_Mo_isMessage_64 {d : Nat} {st : List Value} {a0 : Nat} {o1 : Option Value} {o2 : Option Value} {o3 : Option Value} {fsb : List Value} {w : qk_W} {nc ns : Nat} {Q : Option Value ⊕ Nat → qk_W → Nat → Nat → Prop}  (hb : wo w a0 11 fsb) (h8 : ((.ref a0 :: st).map fun v => Value.category v).sum ≤ 8) (k : Ev d m_Mo_get 0 [some (.ref a0), some (.int 32), none, none, none] [] w nc ns (fun r w1 nc1 ns1 => match r with | .inl v => Ev (d + 1) m_Mo_isMessage 71 [some (.ref a0), o1, o2, o3] (v.toList ++ (.ref a0 :: st)) w1 nc1 ns1 Q | .inr x => Q (.inr x) w1 nc1 ns1)) : Ev (d + 1) m_Mo_isMessage 64 [some (.ref a0), o1, o2, o3] st w nc ns Q := by
  refine ev_aload_n d_Mo_isMessage_64 rfl rfl ?_
  refine ev_aload_n d_Mo_isMessage_65 rfl rfl ?_
  refine ev_bipush 32 d_Mo_isMessage_66 (by decide) ?_
  exact ev_call (M' := m_Mo_get) (As := [.ref a0, .int 32]) (st := (.ref a0 :: st)) d_Mo_isMessage_68 i_Mo_get (fun h => absurd h (by decide +kernel)) cw_Mo_161 rfl rfl ⟨hb.1, 11, _, _, hb.2, rfl, rfl⟩ rfl (Nat.le_of_ble_eq_true rfl) h8 k
theorem t_Mo_isMessage_71 {d : Nat} {st : List Value} {o0 : Option Value} {o1 : Option Value} {o2 : Option Value} {o3 : Option Value} {y0 : Int64} {b1 : Nat} {fs2 : List Value} {w : qk_W} {nc ns : Nat} {Q : Option Value ⊕ Nat → qk_W → Nat → Nat → Prop}  (hw1 : wo w b1 11 fs2) (hk : 30 < fs2.length) (k : Ev d m_Mo_isMessage 74 [o0, o1, o2, o3] st (qk_set w b1 (.inr (11, fs2.set 30 (.long y0)))) nc ns Q) : Ev d m_Mo_isMessage 71 [o0, o1, o2, o3] (.long y0 :: .ref b1 :: st) w nc ns Q := by
  exact ev_putf d_Mo_isMessage_71 fl_Mo_180 rfl hw1.1 hw1.2 hk (qk_fitJ _) k
theorem t_Mo_isMessage_74 {d : Nat} {st : List Value} {a0 : Nat} {o1 : Option Value} {o2 : Option Value} {o3 : Option Value} {fsb : List Value} {w : qk_W} {nc ns : Nat} {Q : Option Value ⊕ Nat → qk_W → Nat → Nat → Prop}  (hb : wo w a0 11 fsb) (h8 : ((.ref a0 :: st).map fun v => Value.category v).sum ≤ 8) (k : Ev d m_Mo_get 0 [some (.ref a0), some (.int 32), none, none, none] [] w nc ns (fun r w1 nc1 ns1 => match r with | .inl v => Ev (d + 1) m_Mo_isMessage 81 [some (.ref a0), o1, o2, o3] (v.toList ++ (.ref a0 :: st)) w1 nc1 ns1 Q | .inr x => Q (.inr x) w1 nc1 ns1)) : Ev (d + 1) m_Mo_isMessage 74 [some (.ref a0), o1, o2, o3] st w nc ns Q := by
  refine ev_aload_n d_Mo_isMessage_74 rfl rfl ?_
  refine ev_aload_n d_Mo_isMessage_75 rfl rfl ?_
  refine ev_bipush 32 d_Mo_isMessage_76 (by decide) ?_
  exact ev_call (M' := m_Mo_get) (As := [.ref a0, .int 32]) (st := (.ref a0 :: st)) d_Mo_isMessage_78 i_Mo_get (fun h => absurd h (by decide +kernel)) cw_Mo_161 rfl rfl ⟨hb.1, 11, _, _, hb.2, rfl, rfl⟩ rfl (Nat.le_of_ble_eq_true rfl) h8 k
theorem t_Mo_isMessage_81 {d : Nat} {st : List Value} {o0 : Option Value} {o1 : Option Value} {o2 : Option Value} {o3 : Option Value} {y0 : Int64} {b1 : Nat} {fs2 : List Value} {w : qk_W} {nc ns : Nat} {Q : Option Value ⊕ Nat → qk_W → Nat → Nat → Prop}  (hw1 : wo w b1 11 fs2) (hk : 29 < fs2.length) (k : Ev d m_Mo_isMessage 84 [o0, o1, o2, o3] st (qk_set w b1 (.inr (11, fs2.set 29 (.long y0)))) nc ns Q) : Ev d m_Mo_isMessage 81 [o0, o1, o2, o3] (.long y0 :: .ref b1 :: st) w nc ns Q := by
  exact ev_putf d_Mo_isMessage_81 fl_Mo_184 rfl hw1.1 hw1.2 hk (qk_fitJ _) k
theorem t_Mo_isMessage_84 {d : Nat} {st : List Value} {a0 : Nat} {o1 : Option Value} {o2 : Option Value} {o3 : Option Value} {fsb : List Value} {w : qk_W} {nc ns : Nat} {Q : Option Value ⊕ Nat → qk_W → Nat → Nat → Prop}  (hb : wo w a0 11 fsb) (h8 : (st.map fun v => Value.category v).sum ≤ 8) (k : Ev d m_Mo_get 0 [some (.ref a0), some (.int 32), none, none, none] [] w nc ns (fun r w1 nc1 ns1 => match r with | .inl v => Ev (d + 1) m_Mo_isMessage 90 [some (.ref a0), o1, o2, o3] (v.toList ++ st) w1 nc1 ns1 Q | .inr x => Q (.inr x) w1 nc1 ns1)) : Ev (d + 1) m_Mo_isMessage 84 [some (.ref a0), o1, o2, o3] st w nc ns Q := by
  refine ev_aload_n d_Mo_isMessage_84 rfl rfl ?_
  refine ev_bipush 32 d_Mo_isMessage_85 (by decide) ?_
  exact ev_call (M' := m_Mo_get) (As := [.ref a0, .int 32]) (st := st) d_Mo_isMessage_87 i_Mo_get (fun h => absurd h (by decide +kernel)) cw_Mo_161 rfl rfl ⟨hb.1, 11, _, _, hb.2, rfl, rfl⟩ rfl (Nat.le_of_ble_eq_true rfl) h8 k
theorem t_Mo_isMessage_90 {d : Nat} {st : List Value} {a0 : Nat} {o1 : Option Value} {o2 : Option Value} {o3 : Option Value} {y0 : Int64} {fsb : List Value} {w : qk_W} {nc ns : Nat} {Q : Option Value ⊕ Nat → qk_W → Nat → Nat → Prop}  (hc1 : qk_c2 [some (.ref a0), o1, o2, o3] 2 = true) (hb : wo w a0 11 fsb) (h8 : (st.map fun v => Value.category v).sum ≤ 8) (k : Ev d m_Mo_get 0 [some (.ref a0), some (.int 32), none, none, none] [] w nc ns (fun r w1 nc1 ns1 => match r with | .inl v => Ev (d + 1) m_Mo_isMessage 98 [some (.ref a0), o1, some (.int (Int64.toInt32 y0)), o3] (v.toList ++ st) w1 nc1 ns1 Q | .inr x => Q (.inr x) w1 nc1 ns1)) : Ev (d + 1) m_Mo_isMessage 90 [some (.ref a0), o1, o2, o3] (.long y0 :: st) w nc ns Q := by
  refine ev_l2i d_Mo_isMessage_90 ?_
  refine ev_istore_n d_Mo_isMessage_91 (by decide) hc1 ?_
  refine ev_aload_n d_Mo_isMessage_92 rfl rfl ?_
  refine ev_bipush 32 d_Mo_isMessage_93 (by decide) ?_
  exact ev_call (M' := m_Mo_get) (As := [.ref a0, .int 32]) (st := st) d_Mo_isMessage_95 i_Mo_get (fun h => absurd h (by decide +kernel)) cw_Mo_161 rfl rfl ⟨hb.1, 11, _, _, hb.2, rfl, rfl⟩ rfl (Nat.le_of_ble_eq_true rfl) h8 k
theorem t_Mo_isMessage_98 {d : Nat} {st : List Value} {a0 : Nat} {o1 : Option Value} {o2 : Option Value} {o3 : Option Value} {y0 : Int64} {fs3 : List Value} {n5 : Int32} {w : qk_W} {nc ns : Nat} {Q : Option Value ⊕ Nat → qk_W → Nat → Nat → Prop}  (hc1 : qk_c2 [some (.ref a0), o1, o2, o3] 3 = true) (hw2 : wo w a0 11 fs3) (hf4 : fs3[26]? = some (.int n5)) (kt : (3 : Int32) < n5 → Ev d m_Mo_isMessage 117 [some (.ref a0), o1, o2, some (.int (Int64.toInt32 y0))] st w nc ns Q) (kf : ¬ ((3 : Int32) < n5) → Ev d m_Mo_isMessage 108 [some (.ref a0), o1, o2, some (.int (Int64.toInt32 y0))] st w nc ns Q) : Ev d m_Mo_isMessage 98 [some (.ref a0), o1, o2, o3] (.long y0 :: st) w nc ns Q := by
  refine ev_l2i d_Mo_isMessage_98 ?_
  refine ev_istore_n d_Mo_isMessage_99 (by decide) hc1 ?_
  refine ev_aload_n d_Mo_isMessage_100 rfl rfl ?_
  refine ev_getf d_Mo_isMessage_101 fl_Mo_171 hw2.1 hw2.2 hf4 ?_
  refine ev_iconst 3 d_Mo_isMessage_104 (by decide) ?_
  exact ev_icmp_gt 117 d_Mo_isMessage_105 (by decide) kt kf
theorem t_Mo_isMessage_108 {d : Nat} {st : List Value} {a0 : Nat} {o1 : Option Value} {o2 : Option Value} {o3 : Option Value} {fs2 : List Value} {n4 : Int32} {w : qk_W} {nc ns : Nat} {Q : Option Value ⊕ Nat → qk_W → Nat → Nat → Prop}  (hw1 : wo w a0 11 fs2) (hf3 : fs2[28]? = some (.int n4)) (kt : n4 ≤ (100 : Int32) → Ev d m_Mo_isMessage 119 [some (.ref a0), o1, o2, o3] st w nc ns Q) (kf : ¬ (n4 ≤ (100 : Int32)) → Ev d m_Mo_isMessage 117 [some (.ref a0), o1, o2, o3] st w nc ns Q) : Ev d m_Mo_isMessage 108 [some (.ref a0), o1, o2, o3] st w nc ns Q := by
  refine ev_aload_n d_Mo_isMessage_108 rfl rfl ?_
  refine ev_getf d_Mo_isMessage_109 fl_Mo_174 hw1.1 hw1.2 hf3 ?_
  refine ev_bipush 100 d_Mo_isMessage_112 (by decide) ?_
  exact ev_icmp_le 119 d_Mo_isMessage_114 (by decide) kt kf
theorem t_Mo_isMessage_117 {d : Nat} {o0 : Option Value} {o1 : Option Value} {o2 : Option Value} {o3 : Option Value} {w : qk_W} {nc ns : Nat} {Q : Option Value ⊕ Nat → qk_W → Nat → Nat → Prop}   (hq : Q (.inl (some (.int 0))) w nc ns) : Ev d m_Mo_isMessage 117 [o0, o1, o2, o3] [] w nc ns Q := by
  refine ev_iconst 0 d_Mo_isMessage_117 (by decide) ?_
  exact ev_iret d_Mo_isMessage_118 rfl rfl hq
theorem t_Mo_isMessage_119 {d : Nat} {st : List Value} {a0 : Nat} {o1 : Option Value} {o2 : Option Value} {o3 : Option Value} {fs2 : List Value} {n4 : Int32} {w : qk_W} {nc ns : Nat} {Q : Option Value ⊕ Nat → qk_W → Nat → Nat → Prop}  (hw1 : wo w a0 11 fs2) (hf3 : fs2[27]? = some (.int n4)) (kt : ¬ n4 = 0 → Ev d m_Mo_isMessage 173 [some (.ref a0), o1, o2, o3] st w nc ns Q) (kf : n4 = 0 → Ev d m_Mo_isMessage 126 [some (.ref a0), o1, o2, o3] st w nc ns Q) : Ev d m_Mo_isMessage 119 [some (.ref a0), o1, o2, o3] st w nc ns Q := by
  refine ev_aload_n d_Mo_isMessage_119 rfl rfl ?_
  refine ev_getf d_Mo_isMessage_120 fl_Mo_177 hw1.1 hw1.2 hf3 ?_
  exact ev_if_ne 173 d_Mo_isMessage_123 (by decide) kt kf
theorem t_Mo_isMessage_126 {d : Nat} {st : List Value} {o0 : Option Value} {x1 : Int32} {o2 : Option Value} {o3 : Option Value} {w : qk_W} {nc ns : Nat} {Q : Option Value ⊕ Nat → qk_W → Nat → Nat → Prop}   (kt : ¬ x1 = (24 : Int32) → Ev d m_Mo_isMessage 171 [o0, some (.int x1), o2, o3] st w nc ns Q) (kf : x1 = (24 : Int32) → Ev d m_Mo_isMessage 132 [o0, some (.int x1), o2, o3] st w nc ns Q) : Ev d m_Mo_isMessage 126 [o0, some (.int x1), o2, o3] st w nc ns Q := by
  refine ev_iload_n d_Mo_isMessage_126 rfl ?_
  refine ev_bipush 24 d_Mo_isMessage_127 (by decide) ?_
  exact ev_icmp_ne 171 d_Mo_isMessage_129 (by decide) kt kf
theorem t_Mo_isMessage_132 {d : Nat} {st : List Value} {a0 : Nat} {o1 : Option Value} {o2 : Option Value} {o3 : Option Value} {fs2 : List Value} {n4 : Int32} {w : qk_W} {nc ns : Nat} {Q : Option Value ⊕ Nat → qk_W → Nat → Nat → Prop}  (hw1 : wo w a0 11 fs2) (hf3 : fs2[28]? = some (.int n4)) (kt : ¬ n4 = 0 → Ev d m_Mo_isMessage 171 [some (.ref a0), o1, o2, o3] st w nc ns Q) (kf : n4 = 0 → Ev d m_Mo_isMessage 139 [some (.ref a0), o1, o2, o3] st w nc ns Q) : Ev d m_Mo_isMessage 132 [some (.ref a0), o1, o2, o3] st w nc ns Q := by
  refine ev_aload_n d_Mo_isMessage_132 rfl rfl ?_
  refine ev_getf d_Mo_isMessage_133 fl_Mo_174 hw1.1 hw1.2 hf3 ?_
  exact ev_if_ne 171 d_Mo_isMessage_136 (by decide) kt kf
theorem t_Mo_isMessage_139 {d : Nat} {st : List Value} {a0 : Nat} {o1 : Option Value} {o2 : Option Value} {o3 : Option Value} {fs2 : List Value} {n4 : Int64} {w : qk_W} {nc ns : Nat} {Q : Option Value ⊕ Nat → qk_W → Nat → Nat → Prop}  (hw1 : wo w a0 11 fs2) (hf3 : fs2[29]? = some (.long n4)) (kt : ¬ (lg_cmp n4 0) = 0 → Ev d m_Mo_isMessage 171 [some (.ref a0), o1, o2, o3] st w nc ns Q) (kf : (lg_cmp n4 0) = 0 → Ev d m_Mo_isMessage 148 [some (.ref a0), o1, o2, o3] st w nc ns Q) : Ev d m_Mo_isMessage 139 [some (.ref a0), o1, o2, o3] st w nc ns Q := by
  refine ev_aload_n d_Mo_isMessage_139 rfl rfl ?_
  refine ev_getf d_Mo_isMessage_140 fl_Mo_184 hw1.1 hw1.2 hf3 ?_
  refine ev_lconst 0 d_Mo_isMessage_143 (by decide) ?_
  refine ev_lcmp d_Mo_isMessage_144 ?_
  exact ev_if_ne 171 d_Mo_isMessage_145 (by decide) kt kf
theorem t_Mo_isMessage_148 {d : Nat} {st : List Value} {o0 : Option Value} {o1 : Option Value} {x2 : Int32} {o3 : Option Value} {w : qk_W} {nc ns : Nat} {Q : Option Value ⊕ Nat → qk_W → Nat → Nat → Prop}   (kt : ¬ x2 = 0 → Ev d m_Mo_isMessage 171 [o0, o1, some (.int x2), o3] st w nc ns Q) (kf : x2 = 0 → Ev d m_Mo_isMessage 152 [o0, o1, some (.int x2), o3] st w nc ns Q) : Ev d m_Mo_isMessage 148 [o0, o1, some (.int x2), o3] st w nc ns Q := by
  refine ev_iload_n d_Mo_isMessage_148 rfl ?_
  exact ev_if_ne 171 d_Mo_isMessage_149 (by decide) kt kf
theorem t_Mo_isMessage_152 {d : Nat} {st : List Value} {o0 : Option Value} {o1 : Option Value} {o2 : Option Value} {x3 : Int32} {w : qk_W} {nc ns : Nat} {Q : Option Value ⊕ Nat → qk_W → Nat → Nat → Prop}   (kt : ¬ x3 = 0 → Ev d m_Mo_isMessage 171 [o0, o1, o2, some (.int x3)] st w nc ns Q) (kf : x3 = 0 → Ev d m_Mo_isMessage 156 [o0, o1, o2, some (.int x3)] st w nc ns Q) : Ev d m_Mo_isMessage 152 [o0, o1, o2, some (.int x3)] st w nc ns Q := by
  refine ev_iload_n d_Mo_isMessage_152 rfl ?_
  exact ev_if_ne 171 d_Mo_isMessage_153 (by decide) kt kf
theorem t_Mo_isMessage_156 {d : Nat} {st : List Value} {a0 : Nat} {o1 : Option Value} {o2 : Option Value} {o3 : Option Value} {fs2 : List Value} {n4 : Int64} {w : qk_W} {nc ns : Nat} {Q : Option Value ⊕ Nat → qk_W → Nat → Nat → Prop}  (hw1 : wo w a0 11 fs2) (hf3 : fs2[30]? = some (.long n4)) (kt : 0 < (lg_cmp n4 32768) → Ev d m_Mo_isMessage 171 [some (.ref a0), o1, o2, o3] st w nc ns Q) (kf : ¬ (0 < (lg_cmp n4 32768)) → Ev d m_Mo_isMessage 167 [some (.ref a0), o1, o2, o3] st w nc ns Q) : Ev d m_Mo_isMessage 156 [some (.ref a0), o1, o2, o3] st w nc ns Q := by
  refine ev_aload_n d_Mo_isMessage_156 rfl rfl ?_
  refine ev_getf d_Mo_isMessage_157 fl_Mo_180 hw1.1 hw1.2 hf3 ?_
  refine ev_ldc2 32768 d_Mo_isMessage_160 ll_Mo_187 ?_
  refine ev_lcmp d_Mo_isMessage_163 ?_
  exact ev_if_gt 171 d_Mo_isMessage_164 (by decide) kt kf
theorem t_Mo_isMessage_167 {d : Nat} {o0 : Option Value} {o1 : Option Value} {o2 : Option Value} {o3 : Option Value} {w : qk_W} {nc ns : Nat} {Q : Option Value ⊕ Nat → qk_W → Nat → Nat → Prop}   (hq : Q (.inl (some (.int 1))) w nc ns) : Ev d m_Mo_isMessage 167 [o0, o1, o2, o3] [] w nc ns Q := by
  refine ev_iconst 1 d_Mo_isMessage_167 (by decide) ?_
  refine ev_goto 172 d_Mo_isMessage_168 (by decide) ?_
  exact ev_iret d_Mo_isMessage_172 rfl rfl hq
theorem t_Mo_isMessage_171 {d : Nat} {o0 : Option Value} {o1 : Option Value} {o2 : Option Value} {o3 : Option Value} {w : qk_W} {nc ns : Nat} {Q : Option Value ⊕ Nat → qk_W → Nat → Nat → Prop}   (hq : Q (.inl (some (.int 0))) w nc ns) : Ev d m_Mo_isMessage 171 [o0, o1, o2, o3] [] w nc ns Q := by
  refine ev_iconst 0 d_Mo_isMessage_171 (by decide) ?_
  exact ev_iret d_Mo_isMessage_172 rfl rfl hq
theorem t_Mo_isMessage_173 {d : Nat} {st : List Value} {a0 : Nat} {o1 : Option Value} {o2 : Option Value} {o3 : Option Value} {fs2 : List Value} {n4 : Int64} {n8 : Int32} {w : qk_W} {nc ns : Nat} {Q : Option Value ⊕ Nat → qk_W → Nat → Nat → Prop}  (hw1 : wo w a0 11 fs2) (hf3 : fs2[29]? = some (.long n4)) (hf7 : fs2[27]? = some (.int n8)) (kt : 0 < (lg_cmp (n4 + (Int32.toInt64 n8)) 32768) → Ev d m_Mo_isMessage 210 [some (.ref a0), o1, o2, o3] st w nc ns Q) (kf : ¬ (0 < (lg_cmp (n4 + (Int32.toInt64 n8)) 32768)) → Ev d m_Mo_isMessage 190 [some (.ref a0), o1, o2, o3] st w nc ns Q) : Ev d m_Mo_isMessage 173 [some (.ref a0), o1, o2, o3] st w nc ns Q := by
  refine ev_aload_n d_Mo_isMessage_173 rfl rfl ?_
  refine ev_getf d_Mo_isMessage_174 fl_Mo_184 hw1.1 hw1.2 hf3 ?_
  refine ev_aload_n d_Mo_isMessage_177 rfl rfl ?_
  refine ev_getf d_Mo_isMessage_178 fl_Mo_177 hw1.1 hw1.2 hf7 ?_
  refine ev_i2l d_Mo_isMessage_181 ?_
  refine ev_ladd d_Mo_isMessage_182 ?_
  refine ev_ldc2 32768 d_Mo_isMessage_183 ll_Mo_187 ?_
  refine ev_lcmp d_Mo_isMessage_186 ?_
  exact ev_if_gt 210 d_Mo_isMessage_187 (by decide) kt kf
theorem t_Mo_isMessage_190 {d : Nat} {st : List Value} {a0 : Nat} {o1 : Option Value} {o2 : Option Value} {o3 : Option Value} {fs2 : List Value} {n4 : Int64} {n8 : Int64} {n12 : Int32} {w : qk_W} {nc ns : Nat} {Q : Option Value ⊕ Nat → qk_W → Nat → Nat → Prop}  (hw1 : wo w a0 11 fs2) (hf3 : fs2[30]? = some (.long n4)) (hf7 : fs2[29]? = some (.long n8)) (hf11 : fs2[27]? = some (.int n12)) (kt : (lg_cmp n4 ((n8 + (Int32.toInt64 n12)) - 1)) ≤ 0 → Ev d m_Mo_isMessage 212 [some (.ref a0), o1, o2, o3] st w nc ns Q) (kf : ¬ ((lg_cmp n4 ((n8 + (Int32.toInt64 n12)) - 1)) ≤ 0) → Ev d m_Mo_isMessage 210 [some (.ref a0), o1, o2, o3] st w nc ns Q) : Ev d m_Mo_isMessage 190 [some (.ref a0), o1, o2, o3] st w nc ns Q := by
  refine ev_aload_n d_Mo_isMessage_190 rfl rfl ?_
  refine ev_getf d_Mo_isMessage_191 fl_Mo_180 hw1.1 hw1.2 hf3 ?_
  refine ev_aload_n d_Mo_isMessage_194 rfl rfl ?_
  refine ev_getf d_Mo_isMessage_195 fl_Mo_184 hw1.1 hw1.2 hf7 ?_
  refine ev_aload_n d_Mo_isMessage_198 rfl rfl ?_
  refine ev_getf d_Mo_isMessage_199 fl_Mo_177 hw1.1 hw1.2 hf11 ?_
  refine ev_i2l d_Mo_isMessage_202 ?_
  refine ev_ladd d_Mo_isMessage_203 ?_
  refine ev_lconst 1 d_Mo_isMessage_204 (by decide) ?_
  refine ev_lsub d_Mo_isMessage_205 ?_
  refine ev_lcmp d_Mo_isMessage_206 ?_
  exact ev_if_le 212 d_Mo_isMessage_207 (by decide) kt kf
theorem t_Mo_isMessage_210 {d : Nat} {o0 : Option Value} {o1 : Option Value} {o2 : Option Value} {o3 : Option Value} {w : qk_W} {nc ns : Nat} {Q : Option Value ⊕ Nat → qk_W → Nat → Nat → Prop}   (hq : Q (.inl (some (.int 0))) w nc ns) : Ev d m_Mo_isMessage 210 [o0, o1, o2, o3] [] w nc ns Q := by
  refine ev_iconst 0 d_Mo_isMessage_210 (by decide) ?_
  exact ev_iret d_Mo_isMessage_211 rfl rfl hq
theorem t_Mo_isMessage_212 {d : Nat} {st : List Value} {a0 : Nat} {x1 : Int32} {x2 : Int32} {o3 : Option Value} {fsb : List Value} {w : qk_W} {nc ns : Nat} {Q : Option Value ⊕ Nat → qk_W → Nat → Nat → Prop}  (hb : wo w a0 11 fsb) (h8 : (st.map fun v => Value.category v).sum ≤ 8) (k : Ev d m_Mo_isRead 0 [some (.ref a0), some (.int x2), some (.int (8 * (x1 - 4))), none, none, none, none, none] [] w nc ns (fun r w1 nc1 ns1 => match r with | .inl v => Ev (d + 1) m_Mo_isMessage 223 [some (.ref a0), some (.int x1), some (.int x2), o3] (v.toList ++ st) w1 nc1 ns1 Q | .inr x => Q (.inr x) w1 nc1 ns1)) : Ev (d + 1) m_Mo_isMessage 212 [some (.ref a0), some (.int x1), some (.int x2), o3] st w nc ns Q := by
  refine ev_aload_n d_Mo_isMessage_212 rfl rfl ?_
  refine ev_iload_n d_Mo_isMessage_213 rfl ?_
  refine ev_bipush 8 d_Mo_isMessage_214 (by decide) ?_
  refine ev_iload_n d_Mo_isMessage_216 rfl ?_
  refine ev_iconst 4 d_Mo_isMessage_217 (by decide) ?_
  refine ev_isub d_Mo_isMessage_218 ?_
  refine ev_imul d_Mo_isMessage_219 ?_
  exact ev_call (M' := m_Mo_isRead) (As := [.ref a0, .int x2, .int (8 * (x1 - 4))]) (st := st) d_Mo_isMessage_220 i_Mo_isRead (fun h => absurd h (by decide +kernel)) cw_Mo_189 rfl rfl ⟨hb.1, 11, _, _, hb.2, rfl, rfl⟩ rfl (Nat.le_of_ble_eq_true rfl) h8 k
theorem t_Mo_isMessage_223 {d : Nat} {st : List Value} {o0 : Option Value} {o1 : Option Value} {o2 : Option Value} {o3 : Option Value} {y0 : Int32} {w : qk_W} {nc ns : Nat} {Q : Option Value ⊕ Nat → qk_W → Nat → Nat → Prop}   (kt : y0 = 0 → Ev d m_Mo_isMessage 245 [o0, o1, o2, o3] st w nc ns Q) (kf : ¬ (y0 = 0) → Ev d m_Mo_isMessage 226 [o0, o1, o2, o3] st w nc ns Q) : Ev d m_Mo_isMessage 223 [o0, o1, o2, o3] (.int y0 :: st) w nc ns Q := by
  exact ev_if_eq 245 d_Mo_isMessage_223 (by decide) kt kf
theorem t_Mo_isMessage_226 {d : Nat} {st : List Value} {a0 : Nat} {o1 : Option Value} {o2 : Option Value} {x3 : Int32} {fs2 : List Value} {c4 : Nat} {n8 : Int32} {n10 : Nat} {f11 : Nat → Int32} {w : qk_W} {nc ns : Nat} {Q : Option Value ⊕ Nat → qk_W → Nat → Nat → Prop}  (hw1 : wo w a0 11 fs2) (hf3 : fs2[31]? = some (.ref c4)) (hf7 : fs2[27]? = some (.int n8)) (ha9 : wi w c4 n10 f11) (hi12 : vp_in (n8 - 1) n10) (kt : ¬ (f11 (n8 - 1).toNatClampNeg) = x3 → Ev d m_Mo_isMessage 245 [some (.ref a0), o1, o2, some (.int x3)] st w nc ns Q) (kf : (f11 (n8 - 1).toNatClampNeg) = x3 → Ev d m_Mo_isMessage 241 [some (.ref a0), o1, o2, some (.int x3)] st w nc ns Q) : Ev d m_Mo_isMessage 226 [some (.ref a0), o1, o2, some (.int x3)] st w nc ns Q := by
  refine ev_aload_n d_Mo_isMessage_226 rfl rfl ?_
  refine ev_getf d_Mo_isMessage_227 fl_Mo_66 hw1.1 hw1.2 hf3 ?_
  refine ev_aload_n d_Mo_isMessage_230 rfl rfl ?_
  refine ev_getf d_Mo_isMessage_231 fl_Mo_177 hw1.1 hw1.2 hf7 ?_
  refine ev_iconst 1 d_Mo_isMessage_234 (by decide) ?_
  refine ev_isub d_Mo_isMessage_235 ?_
  refine ev_iald d_Mo_isMessage_236 ha9 hi12 ?_
  refine ev_iload_n d_Mo_isMessage_237 rfl ?_
  exact ev_icmp_ne 245 d_Mo_isMessage_238 (by decide) kt kf
theorem t_Mo_isMessage_241 {d : Nat} {o0 : Option Value} {o1 : Option Value} {o2 : Option Value} {o3 : Option Value} {w : qk_W} {nc ns : Nat} {Q : Option Value ⊕ Nat → qk_W → Nat → Nat → Prop}   (hq : Q (.inl (some (.int 1))) w nc ns) : Ev d m_Mo_isMessage 241 [o0, o1, o2, o3] [] w nc ns Q := by
  refine ev_iconst 1 d_Mo_isMessage_241 (by decide) ?_
  refine ev_goto 246 d_Mo_isMessage_242 (by decide) ?_
  exact ev_iret d_Mo_isMessage_246 rfl rfl hq
theorem t_Mo_isMessage_245 {d : Nat} {o0 : Option Value} {o1 : Option Value} {o2 : Option Value} {o3 : Option Value} {w : qk_W} {nc ns : Nat} {Q : Option Value ⊕ Nat → qk_W → Nat → Nat → Prop}   (hq : Q (.inl (some (.int 0))) w nc ns) : Ev d m_Mo_isMessage 245 [o0, o1, o2, o3] [] w nc ns Q := by
  refine ev_iconst 0 d_Mo_isMessage_245 (by decide) ?_
  exact ev_iret d_Mo_isMessage_246 rfl rfl hq
/-! Mo_isRead -/
theorem d_Mo_isRead_0 : decode m_Mo_isRead.2.1 0 = .ok (.aload_n 0, 1) := by decide +kernel
theorem d_Mo_isRead_1 : decode m_Mo_isRead.2.1 1 = .ok (.getfield 66, 3) := by decide +kernel
theorem d_Mo_isRead_4 : decode m_Mo_isRead.2.1 4 = .ok (.iconst 0, 1) := by decide +kernel
theorem d_Mo_isRead_5 : decode m_Mo_isRead.2.1 5 = .ok (.iload_n 1, 1) := by decide +kernel
theorem d_Mo_isRead_6 : decode m_Mo_isRead.2.1 6 = .ok (.iastore, 1) := by decide +kernel
theorem d_Mo_isRead_7 : decode m_Mo_isRead.2.1 7 = .ok (.iconst 0, 1) := by decide +kernel
theorem d_Mo_isRead_8 : decode m_Mo_isRead.2.1 8 = .ok (.istore_n 3, 1) := by decide +kernel
theorem d_Mo_isRead_9 : decode m_Mo_isRead.2.1 9 = .ok (.iconst 0, 1) := by decide +kernel
theorem d_Mo_isRead_10 : decode m_Mo_isRead.2.1 10 = .ok (.istore 4, 2) := by decide +kernel
theorem d_Mo_isRead_12 : decode m_Mo_isRead.2.1 12 = .ok (.iconst 1, 1) := by decide +kernel
theorem d_Mo_isRead_13 : decode m_Mo_isRead.2.1 13 = .ok (.istore 5, 2) := by decide +kernel
theorem d_Mo_isRead_15 : decode m_Mo_isRead.2.1 15 = .ok (.iload 5, 2) := by decide +kernel
theorem d_Mo_isRead_17 : decode m_Mo_isRead.2.1 17 = .ok (.aload_n 0, 1) := by decide +kernel
theorem d_Mo_isRead_18 : decode m_Mo_isRead.2.1 18 = .ok (.getfield 177, 3) := by decide +kernel
theorem d_Mo_isRead_21 : decode m_Mo_isRead.2.1 21 = .ok (.if_icmp .ge 142, 3) := by decide +kernel
theorem d_Mo_isRead_24 : decode m_Mo_isRead.2.1 24 = .ok (.iload 5, 2) := by decide +kernel
theorem d_Mo_isRead_26 : decode m_Mo_isRead.2.1 26 = .ok (.bipush 15, 2) := by decide +kernel
theorem d_Mo_isRead_28 : decode m_Mo_isRead.2.1 28 = .ok (.irem, 1) := by decide +kernel
theorem d_Mo_isRead_29 : decode m_Mo_isRead.2.1 29 = .ok (.iconst 1, 1) := by decide +kernel
theorem d_Mo_isRead_30 : decode m_Mo_isRead.2.1 30 = .ok (.if_icmp .ne 39, 3) := by decide +kernel
theorem d_Mo_isRead_33 : decode m_Mo_isRead.2.1 33 = .ok (.aload_n 0, 1) := by decide +kernel
theorem d_Mo_isRead_34 : decode m_Mo_isRead.2.1 34 = .ok (.getfield 115, 3) := by decide +kernel
theorem d_Mo_isRead_37 : decode m_Mo_isRead.2.1 37 = .ok (.iconst 4, 1) := by decide +kernel
theorem d_Mo_isRead_38 : decode m_Mo_isRead.2.1 38 = .ok (.iadd, 1) := by decide +kernel
theorem d_Mo_isRead_39 : decode m_Mo_isRead.2.1 39 = .ok (.iload_n 2, 1) := by decide +kernel
theorem d_Mo_isRead_40 : decode m_Mo_isRead.2.1 40 = .ok (.if_icmp .le 5, 3) := by decide +kernel
theorem d_Mo_isRead_43 : decode m_Mo_isRead.2.1 43 = .ok (.iconst 0, 1) := by decide +kernel
theorem d_Mo_isRead_44 : decode m_Mo_isRead.2.1 44 = .ok (.ireturn, 1) := by decide +kernel
theorem d_Mo_isRead_45 : decode m_Mo_isRead.2.1 45 = .ok (.aload_n 0, 1) := by decide +kernel
theorem d_Mo_isRead_46 : decode m_Mo_isRead.2.1 46 = .ok (.iconst 4, 1) := by decide +kernel
theorem d_Mo_isRead_47 : decode m_Mo_isRead.2.1 47 = .ok (.invokevirtual 161, 3) := by decide +kernel
theorem d_Mo_isRead_50 : decode m_Mo_isRead.2.1 50 = .ok (.l2i, 1) := by decide +kernel
theorem d_Mo_isRead_51 : decode m_Mo_isRead.2.1 51 = .ok (.istore 6, 2) := by decide +kernel
theorem d_Mo_isRead_53 : decode m_Mo_isRead.2.1 53 = .ok (.iload 6, 2) := by decide +kernel
theorem d_Mo_isRead_55 : decode m_Mo_isRead.2.1 55 = .ok (.bipush 9, 2) := by decide +kernel
theorem d_Mo_isRead_57 : decode m_Mo_isRead.2.1 57 = .ok (.if_icmp .le 5, 3) := by decide +kernel
theorem d_Mo_isRead_60 : decode m_Mo_isRead.2.1 60 = .ok (.iconst 0, 1) := by decide +kernel
theorem d_Mo_isRead_61 : decode m_Mo_isRead.2.1 61 = .ok (.ireturn, 1) := by decide +kernel
theorem d_Mo_isRead_62 : decode m_Mo_isRead.2.1 62 = .ok (.iload 6, 2) := by decide +kernel
theorem d_Mo_isRead_64 : decode m_Mo_isRead.2.1 64 = .ok (.invokestatic 76, 3) := by decide +kernel
theorem d_Mo_isRead_67 : decode m_Mo_isRead.2.1 67 = .ok (.istore 4, 2) := by decide +kernel
theorem d_Mo_isRead_69 : decode m_Mo_isRead.2.1 69 = .ok (.aload_n 0, 1) := by decide +kernel
theorem d_Mo_isRead_70 : decode m_Mo_isRead.2.1 70 = .ok (.getfield 115, 3) := by decide +kernel
theorem d_Mo_isRead_73 : decode m_Mo_isRead.2.1 73 = .ok (.iload 4, 2) := by decide +kernel
theorem d_Mo_isRead_75 : decode m_Mo_isRead.2.1 75 = .ok (.iadd, 1) := by decide +kernel
theorem d_Mo_isRead_76 : decode m_Mo_isRead.2.1 76 = .ok (.iload_n 2, 1) := by decide +kernel
theorem d_Mo_isRead_77 : decode m_Mo_isRead.2.1 77 = .ok (.if_icmp .le 5, 3) := by decide +kernel
theorem d_Mo_isRead_80 : decode m_Mo_isRead.2.1 80 = .ok (.iconst 0, 1) := by decide +kernel
theorem d_Mo_isRead_81 : decode m_Mo_isRead.2.1 81 = .ok (.ireturn, 1) := by decide +kernel
theorem d_Mo_isRead_82 : decode m_Mo_isRead.2.1 82 = .ok (.aload_n 0, 1) := by decide +kernel
theorem d_Mo_isRead_83 : decode m_Mo_isRead.2.1 83 = .ok (.iload 4, 2) := by decide +kernel
theorem d_Mo_isRead_85 : decode m_Mo_isRead.2.1 85 = .ok (.invokevirtual 161, 3) := by decide +kernel
theorem d_Mo_isRead_88 : decode m_Mo_isRead.2.1 88 = .ok (.lstore 6, 2) := by decide +kernel
theorem d_Mo_isRead_90 : decode m_Mo_isRead.2.1 90 = .ok (.iload 4, 2) := by decide +kernel
theorem d_Mo_isRead_92 : decode m_Mo_isRead.2.1 92 = .ok (.ifCond .le 25, 3) := by decide +kernel
theorem d_Mo_isRead_95 : decode m_Mo_isRead.2.1 95 = .ok (.lload 6, 2) := by decide +kernel
theorem d_Mo_isRead_97 : decode m_Mo_isRead.2.1 97 = .ok (.lconst 1, 1) := by decide +kernel
theorem d_Mo_isRead_98 : decode m_Mo_isRead.2.1 98 = .ok (.iload 4, 2) := by decide +kernel
theorem d_Mo_isRead_100 : decode m_Mo_isRead.2.1 100 = .ok (.iconst 1, 1) := by decide +kernel
theorem d_Mo_isRead_101 : decode m_Mo_isRead.2.1 101 = .ok (.isub, 1) := by decide +kernel
theorem d_Mo_isRead_102 : decode m_Mo_isRead.2.1 102 = .ok (.lshl, 1) := by decide +kernel
theorem d_Mo_isRead_103 : decode m_Mo_isRead.2.1 103 = .ok (.lcmp, 1) := by decide +kernel
theorem d_Mo_isRead_104 : decode m_Mo_isRead.2.1 104 = .ok (.ifCond .lt 13, 3) := by decide +kernel
theorem d_Mo_isRead_107 : decode m_Mo_isRead.2.1 107 = .ok (.lload 6, 2) := by decide +kernel
theorem d_Mo_isRead_109 : decode m_Mo_isRead.2.1 109 = .ok (.lconst 1, 1) := by decide +kernel
theorem d_Mo_isRead_110 : decode m_Mo_isRead.2.1 110 = .ok (.iload 4, 2) := by decide +kernel
theorem d_Mo_isRead_112 : decode m_Mo_isRead.2.1 112 = .ok (.lshl, 1) := by decide +kernel
theorem d_Mo_isRead_113 : decode m_Mo_isRead.2.1 113 = .ok (.lsub, 1) := by decide +kernel
theorem d_Mo_isRead_114 : decode m_Mo_isRead.2.1 114 = .ok (.goto 5, 3) := by decide +kernel
theorem d_Mo_isRead_117 : decode m_Mo_isRead.2.1 117 = .ok (.lload 6, 2) := by decide +kernel
theorem d_Mo_isRead_119 : decode m_Mo_isRead.2.1 119 = .ok (.lstore 6, 2) := by decide +kernel
theorem d_Mo_isRead_121 : decode m_Mo_isRead.2.1 121 = .ok (.iload 5, 2) := by decide +kernel
theorem d_Mo_isRead_123 : decode m_Mo_isRead.2.1 123 = .ok (.iconst 1, 1) := by decide +kernel
theorem d_Mo_isRead_124 : decode m_Mo_isRead.2.1 124 = .ok (.if_icmp .ne 9, 3) := by decide +kernel
theorem d_Mo_isRead_127 : decode m_Mo_isRead.2.1 127 = .ok (.lload 6, 2) := by decide +kernel
theorem d_Mo_isRead_129 : decode m_Mo_isRead.2.1 129 = .ok (.l2i, 1) := by decide +kernel
theorem d_Mo_isRead_130 : decode m_Mo_isRead.2.1 130 = .ok (.goto 8, 3) := by decide +kernel
theorem d_Mo_isRead_133 : decode m_Mo_isRead.2.1 133 = .ok (.iload_n 3, 1) := by decide +kernel
theorem d_Mo_isRead_134 : decode m_Mo_isRead.2.1 134 = .ok (.lload 6, 2) := by decide +kernel
theorem d_Mo_isRead_136 : decode m_Mo_isRead.2.1 136 = .ok (.l2i, 1) := by decide +kernel
theorem d_Mo_isRead_137 : decode m_Mo_isRead.2.1 137 = .ok (.iadd, 1) := by decide +kernel
theorem d_Mo_isRead_138 : decode m_Mo_isRead.2.1 138 = .ok (.istore_n 3, 1) := by decide +kernel
theorem d_Mo_isRead_139 : decode m_Mo_isRead.2.1 139 = .ok (.aload_n 0, 1) := by decide +kernel
theorem d_Mo_isRead_140 : decode m_Mo_isRead.2.1 140 = .ok (.getfield 66, 3) := by decide +kernel
theorem d_Mo_isRead_143 : decode m_Mo_isRead.2.1 143 = .ok (.iload 5, 2) := by decide +kernel
theorem d_Mo_isRead_145 : decode m_Mo_isRead.2.1 145 = .ok (.aload_n 0, 1) := by decide +kernel
theorem d_Mo_isRead_146 : decode m_Mo_isRead.2.1 146 = .ok (.getfield 66, 3) := by decide +kernel
theorem d_Mo_isRead_149 : decode m_Mo_isRead.2.1 149 = .ok (.iload 5, 2) := by decide +kernel
theorem d_Mo_isRead_151 : decode m_Mo_isRead.2.1 151 = .ok (.iconst 1, 1) := by decide +kernel
theorem d_Mo_isRead_152 : decode m_Mo_isRead.2.1 152 = .ok (.isub, 1) := by decide +kernel
theorem d_Mo_isRead_153 : decode m_Mo_isRead.2.1 153 = .ok (.iaload, 1) := by decide +kernel
theorem d_Mo_isRead_154 : decode m_Mo_isRead.2.1 154 = .ok (.iload_n 3, 1) := by decide +kernel
theorem d_Mo_isRead_155 : decode m_Mo_isRead.2.1 155 = .ok (.iadd, 1) := by decide +kernel
theorem d_Mo_isRead_156 : decode m_Mo_isRead.2.1 156 = .ok (.iastore, 1) := by decide +kernel
theorem d_Mo_isRead_157 : decode m_Mo_isRead.2.1 157 = .ok (.iinc 5 1, 3) := by decide +kernel
theorem d_Mo_isRead_160 : decode m_Mo_isRead.2.1 160 = .ok (.goto (-145), 3) := by decide +kernel
theorem d_Mo_isRead_163 : decode m_Mo_isRead.2.1 163 = .ok (.iload_n 2, 1) := by decide +kernel
theorem d_Mo_isRead_164 : decode m_Mo_isRead.2.1 164 = .ok (.aload_n 0, 1) := by decide +kernel
theorem d_Mo_isRead_165 : decode m_Mo_isRead.2.1 165 = .ok (.getfield 115, 3) := by decide +kernel
theorem d_Mo_isRead_168 : decode m_Mo_isRead.2.1 168 = .ok (.isub, 1) := by decide +kernel
theorem d_Mo_isRead_169 : decode m_Mo_isRead.2.1 169 = .ok (.bipush 7, 2) := by decide +kernel
theorem d_Mo_isRead_171 : decode m_Mo_isRead.2.1 171 = .ok (.if_icmp .le 5, 3) := by decide +kernel
theorem d_Mo_isRead_174 : decode m_Mo_isRead.2.1 174 = .ok (.iconst 0, 1) := by decide +kernel
theorem d_Mo_isRead_175 : decode m_Mo_isRead.2.1 175 = .ok (.ireturn, 1) := by decide +kernel
theorem d_Mo_isRead_176 : decode m_Mo_isRead.2.1 176 = .ok (.aload_n 0, 1) := by decide +kernel
theorem d_Mo_isRead_177 : decode m_Mo_isRead.2.1 177 = .ok (.iload_n 2, 1) := by decide +kernel
theorem d_Mo_isRead_178 : decode m_Mo_isRead.2.1 178 = .ok (.aload_n 0, 1) := by decide +kernel
theorem d_Mo_isRead_179 : decode m_Mo_isRead.2.1 179 = .ok (.getfield 115, 3) := by decide +kernel
theorem d_Mo_isRead_182 : decode m_Mo_isRead.2.1 182 = .ok (.isub, 1) := by decide +kernel
theorem d_Mo_isRead_183 : decode m_Mo_isRead.2.1 183 = .ok (.invokevirtual 161, 3) := by decide +kernel
theorem d_Mo_isRead_186 : decode m_Mo_isRead.2.1 186 = .ok (.lconst 0, 1) := by decide +kernel
theorem d_Mo_isRead_187 : decode m_Mo_isRead.2.1 187 = .ok (.lcmp, 1) := by decide +kernel
theorem d_Mo_isRead_188 : decode m_Mo_isRead.2.1 188 = .ok (.ifCond .ne 7, 3) := by decide +kernel
theorem d_Mo_isRead_191 : decode m_Mo_isRead.2.1 191 = .ok (.iconst 1, 1) := by decide +kernel
theorem d_Mo_isRead_192 : decode m_Mo_isRead.2.1 192 = .ok (.goto 4, 3) := by decide +kernel
theorem d_Mo_isRead_195 : decode m_Mo_isRead.2.1 195 = .ok (.iconst 0, 1) := by decide +kernel
theorem d_Mo_isRead_196 : decode m_Mo_isRead.2.1 196 = .ok (.ireturn, 1) := by decide +kernel
theorem t_Mo_isRead_0 {d : Nat} {st : List Value} {a0 : Nat} {x1 : Int32} {o2 : Option Value} {o3 : Option Value} {o4 : Option Value} {o5 : Option Value} {o6 : Option Value} {o7 : Option Value} {fs2 : List Value} {c4 : Nat} {n6 : Nat} {f7 : Nat → Int32} {w : qk_W} {nc ns : Nat} {Q : Option Value ⊕ Nat → qk_W → Nat → Nat → Prop}  (hw1 : wo w a0 11 fs2) (hf3 : fs2[31]? = some (.ref c4)) (ha5 : wi w c4 n6 f7) (hi : vp_in 0 n6) (h16 : 16 ≤ c4) (k : Ev d m_Mo_isRead 7 [some (.ref a0), some (.int x1), o2, o3, o4, o5, o6, o7] st (qk_set w c4 (.inl (.int, n6, .inl (upd f7 (0 : Int32).toNatClampNeg x1)))) nc ns Q) : Ev d m_Mo_isRead 0 [some (.ref a0), some (.int x1), o2, o3, o4, o5, o6, o7] st w nc ns Q := by
  refine ev_aload_n d_Mo_isRead_0 rfl rfl ?_
  refine ev_getf d_Mo_isRead_1 fl_Mo_66 hw1.1 hw1.2 hf3 ?_
  refine ev_iconst 0 d_Mo_isRead_4 (by decide) ?_
  refine ev_iload_n d_Mo_isRead_5 rfl ?_
  exact ev_iast d_Mo_isRead_6 h16 ha5 hi k
theorem t_Mo_isRead_7 {d : Nat} {st : List Value} {o0 : Option Value} {o1 : Option Value} {o2 : Option Value} {o3 : Option Value} {o4 : Option Value} {o5 : Option Value} {o6 : Option Value} {o7 : Option Value} {w : qk_W} {nc ns : Nat} {Q : Option Value ⊕ Nat → qk_W → Nat → Nat → Prop}  (hc1 : qk_c2 [o0, o1, o2, o3, o4, o5, o6, o7] 3 = true) (k : Ev d m_Mo_isRead 15 [o0, o1, o2, some (.int 0), some (.int 0), some (.int 1), o6, o7] st w nc ns Q) : Ev d m_Mo_isRead 7 [o0, o1, o2, o3, o4, o5, o6, o7] st w nc ns Q := by
  refine ev_iconst 0 d_Mo_isRead_7 (by decide) ?_
  refine ev_istore_n d_Mo_isRead_8 (by decide) hc1 ?_
  refine ev_iconst 0 d_Mo_isRead_9 (by decide) ?_
  refine ev_istore d_Mo_isRead_10 (by decide) rfl ?_
  refine ev_iconst 1 d_Mo_isRead_12 (by decide) ?_
  refine ev_istore d_Mo_isRead_13 (by decide) rfl ?_
  exact k
theorem t_Mo_isRead_15 {d : Nat} {st : List Value} {a0 : Nat} {o1 : Option Value} {o2 : Option Value} {o3 : Option Value} {o4 : Option Value} {x5 : Int32} {o6 : Option Value} {o7 : Option Value} {fs2 : List Value} {n4 : Int32} {w : qk_W} {nc ns : Nat} {Q : Option Value ⊕ Nat → qk_W → Nat → Nat → Prop}  (hw1 : wo w a0 11 fs2) (hf3 : fs2[27]? = some (.int n4)) (kt : n4 ≤ x5 → Ev d m_Mo_isRead 163 [some (.ref a0), o1, o2, o3, o4, some (.int x5), o6, o7] st w nc ns Q) (kf : ¬ (n4 ≤ x5) → Ev d m_Mo_isRead 24 [some (.ref a0), o1, o2, o3, o4, some (.int x5), o6, o7] st w nc ns Q) : Ev d m_Mo_isRead 15 [some (.ref a0), o1, o2, o3, o4, some (.int x5), o6, o7] st w nc ns Q := by
  refine ev_iload d_Mo_isRead_15 rfl ?_
  refine ev_aload_n d_Mo_isRead_17 rfl rfl ?_
  refine ev_getf d_Mo_isRead_18 fl_Mo_177 hw1.1 hw1.2 hf3 ?_
  exact ev_icmp_ge 163 d_Mo_isRead_21 (by decide) kt kf
theorem t_Mo_isRead_24 {d : Nat} {st : List Value} {o0 : Option Value} {o1 : Option Value} {o2 : Option Value} {o3 : Option Value} {o4 : Option Value} {x5 : Int32} {o6 : Option Value} {o7 : Option Value} {w : qk_W} {nc ns : Nat} {Q : Option Value ⊕ Nat → qk_W → Nat → Nat → Prop}   (kt : ¬ (qi_rem x5 15) = (1 : Int32) → Ev d m_Mo_isRead 69 [o0, o1, o2, o3, o4, some (.int x5), o6, o7] st w nc ns Q) (kf : (qi_rem x5 15) = (1 : Int32) → Ev d m_Mo_isRead 33 [o0, o1, o2, o3, o4, some (.int x5), o6, o7] st w nc ns Q) : Ev d m_Mo_isRead 24 [o0, o1, o2, o3, o4, some (.int x5), o6, o7] st w nc ns Q := by
  refine ev_iload d_Mo_isRead_24 rfl ?_
  refine ev_bipush 15 d_Mo_isRead_26 (by decide) ?_
  refine ev_irem d_Mo_isRead_28 (by decide) ?_
  refine ev_iconst 1 d_Mo_isRead_29 (by decide) ?_
  exact ev_icmp_ne 69 d_Mo_isRead_30 (by decide) kt kf
theorem t_Mo_isRead_33 {d : Nat} {st : List Value} {a0 : Nat} {o1 : Option Value} {x2 : Int32} {o3 : Option Value} {o4 : Option Value} {o5 : Option Value} {o6 : Option Value} {o7 : Option Value} {fs2 : List Value} {n4 : Int32} {w : qk_W} {nc ns : Nat} {Q : Option Value ⊕ Nat → qk_W → Nat → Nat → Prop}  (hw1 : wo w a0 11 fs2) (hf3 : fs2[25]? = some (.int n4)) (kt : (n4 + 4) ≤ x2 → Ev d m_Mo_isRead 45 [some (.ref a0), o1, some (.int x2), o3, o4, o5, o6, o7] st w nc ns Q) (kf : ¬ ((n4 + 4) ≤ x2) → Ev d m_Mo_isRead 43 [some (.ref a0), o1, some (.int x2), o3, o4, o5, o6, o7] st w nc ns Q) : Ev d m_Mo_isRead 33 [some (.ref a0), o1, some (.int x2), o3, o4, o5, o6, o7] st w nc ns Q := by
  refine ev_aload_n d_Mo_isRead_33 rfl rfl ?_
  refine ev_getf d_Mo_isRead_34 fl_Mo_115 hw1.1 hw1.2 hf3 ?_
  refine ev_iconst 4 d_Mo_isRead_37 (by decide) ?_
  refine ev_iadd d_Mo_isRead_38 ?_
  refine ev_iload_n d_Mo_isRead_39 rfl ?_
  exact ev_icmp_le 45 d_Mo_isRead_40 (by decide) kt kf
theorem t_Mo_isRead_43 {d : Nat} {o0 : Option Value} {o1 : Option Value} {o2 : Option Value} {o3 : Option Value} {o4 : Option Value} {o5 : Option Value} {o6 : Option Value} {o7 : Option Value} {w : qk_W} {nc ns : Nat} {Q : Option Value ⊕ Nat → qk_W → Nat → Nat → Prop}   (hq : Q (.inl (some (.int 0))) w nc ns) : Ev d m_Mo_isRead 43 [o0, o1, o2, o3, o4, o5, o6, o7] [] w nc ns Q := by
  refine ev_iconst 0 d_Mo_isRead_43 (by decide) ?_
  exact ev_iret d_Mo_isRead_44 rfl rfl hq
theorem t_Mo_isRead_45 {d : Nat} {st : List Value} {a0 : Nat} {o1 : Option Value} {o2 : Option Value} {o3 : Option Value} {o4 : Option Value} {o5 : Option Value} {o6 : Option Value} {o7 : Option Value} {fsb : List Value} {w : qk_W} {nc ns : Nat} {Q : Option Value ⊕ Nat → qk_W → Nat → Nat → Prop}  (hb : wo w a0 11 fsb) (h8 : (st.map fun v => Value.category v).sum ≤ 8) (k : Ev d m_Mo_get 0 [some (.ref a0), some (.int 4), none, none, none] [] w nc ns (fun r w1 nc1 ns1 => match r with | .inl v => Ev (d + 1) m_Mo_isRead 50 [some (.ref a0), o1, o2, o3, o4, o5, o6, o7] (v.toList ++ st) w1 nc1 ns1 Q | .inr x => Q (.inr x) w1 nc1 ns1)) : Ev (d + 1) m_Mo_isRead 45 [some (.ref a0), o1, o2, o3, o4, o5, o6, o7] st w nc ns Q := by
  refine ev_aload_n d_Mo_isRead_45 rfl rfl ?_
  refine ev_iconst 4 d_Mo_isRead_46 (by decide) ?_
  exact ev_call (M' := m_Mo_get) (As := [.ref a0, .int 4]) (st := st) d_Mo_isRead_47 i_Mo_get (fun h => absurd h (by decide +kernel)) cw_Mo_161 rfl rfl ⟨hb.1, 11, _, _, hb.2, rfl, rfl⟩ rfl (Nat.le_of_ble_eq_true rfl) h8 k
theorem t_Mo_isRead_50 {d : Nat} {st : List Value} {o0 : Option Value} {o1 : Option Value} {o2 : Option Value} {o3 : Option Value} {o4 : Option Value} {o5 : Option Value} {o6 : Option Value} {o7 : Option Value} {y0 : Int64} {w : qk_W} {nc ns : Nat} {Q : Option Value ⊕ Nat → qk_W → Nat → Nat → Prop}  (hc1 : qk_c2 [o0, o1, o2, o3, o4, o5, o6, o7] 6 = true) (kt : (Int64.toInt32 y0) ≤ (9 : Int32) → Ev d m_Mo_isRead 62 [o0, o1, o2, o3, o4, o5, some (.int (Int64.toInt32 y0)), o7] st w nc ns Q) (kf : ¬ ((Int64.toInt32 y0) ≤ (9 : Int32)) → Ev d m_Mo_isRead 60 [o0, o1, o2, o3, o4, o5, some (.int (Int64.toInt32 y0)), o7] st w nc ns Q) : Ev d m_Mo_isRead 50 [o0, o1, o2, o3, o4, o5, o6, o7] (.long y0 :: st) w nc ns Q := by
  refine ev_l2i d_Mo_isRead_50 ?_
  refine ev_istore d_Mo_isRead_51 (by decide) hc1 ?_
  refine ev_iload d_Mo_isRead_53 rfl ?_
  refine ev_bipush 9 d_Mo_isRead_55 (by decide) ?_
  exact ev_icmp_le 62 d_Mo_isRead_57 (by decide) kt kf
theorem t_Mo_isRead_60 {d : Nat} {o0 : Option Value} {o1 : Option Value} {o2 : Option Value} {o3 : Option Value} {o4 : Option Value} {o5 : Option Value} {o6 : Option Value} {o7 : Option Value} {w : qk_W} {nc ns : Nat} {Q : Option Value ⊕ Nat → qk_W → Nat → Nat → Prop}   (hq : Q (.inl (some (.int 0))) w nc ns) : Ev d m_Mo_isRead 60 [o0, o1, o2, o3, o4, o5, o6, o7] [] w nc ns Q := by
  refine ev_iconst 0 d_Mo_isRead_60 (by decide) ?_
  exact ev_iret d_Mo_isRead_61 rfl rfl hq
theorem t_Mo_isRead_62 {d : Nat} {st : List Value} {o0 : Option Value} {o1 : Option Value} {o2 : Option Value} {o3 : Option Value} {o4 : Option Value} {o5 : Option Value} {x6 : Int32} {o7 : Option Value} {w : qk_W} {nc ns : Nat} {Q : Option Value ⊕ Nat → qk_W → Nat → Nat → Prop}  (h8 : (st.map fun v => Value.category v).sum ≤ 8) (k : Ev d m_Mo_widthOf 0 [some (.int x6)] [] w nc ns (fun r w1 nc1 ns1 => match r with | .inl v => Ev (d + 1) m_Mo_isRead 67 [o0, o1, o2, o3, o4, o5, some (.int x6), o7] (v.toList ++ st) w1 nc1 ns1 Q | .inr x => Q (.inr x) w1 nc1 ns1)) : Ev (d + 1) m_Mo_isRead 62 [o0, o1, o2, o3, o4, o5, some (.int x6), o7] st w nc ns Q := by
  refine ev_iload d_Mo_isRead_62 rfl ?_
  exact ev_call (M' := m_Mo_widthOf) (As := [.int x6]) (st := st) d_Mo_isRead_64 i_Mo_widthOf (fun h => absurd h (by decide +kernel)) cw_Mo_76 rfl rfl trivial rfl (Nat.le_of_ble_eq_true rfl) h8 k
theorem t_Mo_isRead_67 {d : Nat} {st : List Value} {a0 : Nat} {o1 : Option Value} {x2 : Int32} {o3 : Option Value} {o4 : Option Value} {o5 : Option Value} {o6 : Option Value} {o7 : Option Value} {y0 : Int32} {fs3 : List Value} {n5 : Int32} {w : qk_W} {nc ns : Nat} {Q : Option Value ⊕ Nat → qk_W → Nat → Nat → Prop}  (hc1 : qk_c2 [some (.ref a0), o1, some (.int x2), o3, o4, o5, o6, o7] 4 = true) (hw2 : wo w a0 11 fs3) (hf4 : fs3[25]? = some (.int n5)) (kt : (n5 + y0) ≤ x2 → Ev d m_Mo_isRead 82 [some (.ref a0), o1, some (.int x2), o3, some (.int y0), o5, o6, o7] st w nc ns Q) (kf : ¬ ((n5 + y0) ≤ x2) → Ev d m_Mo_isRead 80 [some (.ref a0), o1, some (.int x2), o3, some (.int y0), o5, o6, o7] st w nc ns Q) : Ev d m_Mo_isRead 67 [some (.ref a0), o1, some (.int x2), o3, o4, o5, o6, o7] (.int y0 :: st) w nc ns Q := by
  refine ev_istore d_Mo_isRead_67 (by decide) hc1 ?_
  refine ev_aload_n d_Mo_isRead_69 rfl rfl ?_
  refine ev_getf d_Mo_isRead_70 fl_Mo_115 hw2.1 hw2.2 hf4 ?_
  refine ev_iload d_Mo_isRead_73 rfl ?_
  refine ev_iadd d_Mo_isRead_75 ?_
  refine ev_iload_n d_Mo_isRead_76 rfl ?_
  exact ev_icmp_le 82 d_Mo_isRead_77 (by decide) kt kf
theorem t_Mo_isRead_69 {d : Nat} {st : List Value} {a0 : Nat} {o1 : Option Value} {x2 : Int32} {o3 : Option Value} {x4 : Int32} {o5 : Option Value} {o6 : Option Value} {o7 : Option Value} {fs2 : List Value} {n4 : Int32} {w : qk_W} {nc ns : Nat} {Q : Option Value ⊕ Nat → qk_W → Nat → Nat → Prop}  (hw1 : wo w a0 11 fs2) (hf3 : fs2[25]? = some (.int n4)) (kt : (n4 + x4) ≤ x2 → Ev d m_Mo_isRead 82 [some (.ref a0), o1, some (.int x2), o3, some (.int x4), o5, o6, o7] st w nc ns Q) (kf : ¬ ((n4 + x4) ≤ x2) → Ev d m_Mo_isRead 80 [some (.ref a0), o1, some (.int x2), o3, some (.int x4), o5, o6, o7] st w nc ns Q) : Ev d m_Mo_isRead 69 [some (.ref a0), o1, some (.int x2), o3, some (.int x4), o5, o6, o7] st w nc ns Q := by
  refine ev_aload_n d_Mo_isRead_69 rfl rfl ?_
  refine ev_getf d_Mo_isRead_70 fl_Mo_115 hw1.1 hw1.2 hf3 ?_
  refine ev_iload d_Mo_isRead_73 rfl ?_
  refine ev_iadd d_Mo_isRead_75 ?_
  refine ev_iload_n d_Mo_isRead_76 rfl ?_
  exact ev_icmp_le 82 d_Mo_isRead_77 (by decide) kt kf
theorem t_Mo_isRead_80 {d : Nat} {o0 : Option Value} {o1 : Option Value} {o2 : Option Value} {o3 : Option Value} {o4 : Option Value} {o5 : Option Value} {o6 : Option Value} {o7 : Option Value} {w : qk_W} {nc ns : Nat} {Q : Option Value ⊕ Nat → qk_W → Nat → Nat → Prop}   (hq : Q (.inl (some (.int 0))) w nc ns) : Ev d m_Mo_isRead 80 [o0, o1, o2, o3, o4, o5, o6, o7] [] w nc ns Q := by
  refine ev_iconst 0 d_Mo_isRead_80 (by decide) ?_
  exact ev_iret d_Mo_isRead_81 rfl rfl hq
theorem t_Mo_isRead_82 {d : Nat} {st : List Value} {a0 : Nat} {o1 : Option Value} {o2 : Option Value} {o3 : Option Value} {x4 : Int32} {o5 : Option Value} {o6 : Option Value} {o7 : Option Value} {fsb : List Value} {w : qk_W} {nc ns : Nat} {Q : Option Value ⊕ Nat → qk_W → Nat → Nat → Prop}  (hb : wo w a0 11 fsb) (h8 : (st.map fun v => Value.category v).sum ≤ 8) (k : Ev d m_Mo_get 0 [some (.ref a0), some (.int x4), none, none, none] [] w nc ns (fun r w1 nc1 ns1 => match r with | .inl v => Ev (d + 1) m_Mo_isRead 88 [some (.ref a0), o1, o2, o3, some (.int x4), o5, o6, o7] (v.toList ++ st) w1 nc1 ns1 Q | .inr x => Q (.inr x) w1 nc1 ns1)) : Ev (d + 1) m_Mo_isRead 82 [some (.ref a0), o1, o2, o3, some (.int x4), o5, o6, o7] st w nc ns Q := by
  refine ev_aload_n d_Mo_isRead_82 rfl rfl ?_
  refine ev_iload d_Mo_isRead_83 rfl ?_
  exact ev_call (M' := m_Mo_get) (As := [.ref a0, .int x4]) (st := st) d_Mo_isRead_85 i_Mo_get (fun h => absurd h (by decide +kernel)) cw_Mo_161 rfl rfl ⟨hb.1, 11, _, _, hb.2, rfl, rfl⟩ rfl (Nat.le_of_ble_eq_true rfl) h8 k
theorem t_Mo_isRead_88 {d : Nat} {st : List Value} {o0 : Option Value} {o1 : Option Value} {o2 : Option Value} {o3 : Option Value} {x4 : Int32} {o5 : Option Value} {o6 : Option Value} {o7 : Option Value} {y0 : Int64} {w : qk_W} {nc ns : Nat} {Q : Option Value ⊕ Nat → qk_W → Nat → Nat → Prop}  (hc1 : qk_c2 [o0, o1, o2, o3, some (.int x4), o5, o6, o7] 6 = true) (kt : x4 ≤ 0 → Ev d m_Mo_isRead 117 [o0, o1, o2, o3, some (.int x4), o5, some (.long y0), none] st w nc ns Q) (kf : ¬ (x4 ≤ 0) → Ev d m_Mo_isRead 95 [o0, o1, o2, o3, some (.int x4), o5, some (.long y0), none] st w nc ns Q) : Ev d m_Mo_isRead 88 [o0, o1, o2, o3, some (.int x4), o5, o6, o7] (.long y0 :: st) w nc ns Q := by
  refine ev_lstore d_Mo_isRead_88 (by decide) hc1 ?_
  refine ev_iload d_Mo_isRead_90 rfl ?_
  exact ev_if_le 117 d_Mo_isRead_92 (by decide) kt kf
theorem t_Mo_isRead_95 {d : Nat} {st : List Value} {o0 : Option Value} {o1 : Option Value} {o2 : Option Value} {o3 : Option Value} {x4 : Int32} {o5 : Option Value} {x6 : Int64} {o7 : Option Value} {w : qk_W} {nc ns : Nat} {Q : Option Value ⊕ Nat → qk_W → Nat → Nat → Prop}   (kt : (lg_cmp x6 (ql_shl 1 (x4 - 1))) < 0 → Ev d m_Mo_isRead 117 [o0, o1, o2, o3, some (.int x4), o5, some (.long x6), o7] st w nc ns Q) (kf : ¬ ((lg_cmp x6 (ql_shl 1 (x4 - 1))) < 0) → Ev d m_Mo_isRead 107 [o0, o1, o2, o3, some (.int x4), o5, some (.long x6), o7] st w nc ns Q) : Ev d m_Mo_isRead 95 [o0, o1, o2, o3, some (.int x4), o5, some (.long x6), o7] st w nc ns Q := by
  refine ev_lload d_Mo_isRead_95 rfl ?_
  refine ev_lconst 1 d_Mo_isRead_97 (by decide) ?_
  refine ev_iload d_Mo_isRead_98 rfl ?_
  refine ev_iconst 1 d_Mo_isRead_100 (by decide) ?_
  refine ev_isub d_Mo_isRead_101 ?_
  refine ev_lshl d_Mo_isRead_102 ?_
  refine ev_lcmp d_Mo_isRead_103 ?_
  exact ev_if_lt 117 d_Mo_isRead_104 (by decide) kt kf
theorem t_Mo_isRead_107 {d : Nat} {st : List Value} {o0 : Option Value} {o1 : Option Value} {o2 : Option Value} {o3 : Option Value} {x4 : Int32} {x5 : Int32} {x6 : Int64} {o7 : Option Value} {w : qk_W} {nc ns : Nat} {Q : Option Value ⊕ Nat → qk_W → Nat → Nat → Prop}  (hc1 : qk_c2 [o0, o1, o2, o3, some (.int x4), some (.int x5), some (.long x6), o7] 6 = true) (kt : ¬ x5 = (1 : Int32) → Ev d m_Mo_isRead 133 [o0, o1, o2, o3, some (.int x4), some (.int x5), some (.long (x6 - (ql_shl 1 x4))), none] st w nc ns Q) (kf : x5 = (1 : Int32) → Ev d m_Mo_isRead 127 [o0, o1, o2, o3, some (.int x4), some (.int x5), some (.long (x6 - (ql_shl 1 x4))), none] st w nc ns Q) : Ev d m_Mo_isRead 107 [o0, o1, o2, o3, some (.int x4), some (.int x5), some (.long x6), o7] st w nc ns Q := by
  refine ev_lload d_Mo_isRead_107 rfl ?_
  refine ev_lconst 1 d_Mo_isRead_109 (by decide) ?_
  refine ev_iload d_Mo_isRead_110 rfl ?_
  refine ev_lshl d_Mo_isRead_112 ?_
  refine ev_lsub d_Mo_isRead_113 ?_
  refine ev_goto 119 d_Mo_isRead_114 (by decide) ?_
  refine ev_lstore d_Mo_isRead_119 (by decide) hc1 ?_
  refine ev_iload d_Mo_isRead_121 rfl ?_
  refine ev_iconst 1 d_Mo_isRead_123 (by decide) ?_
  exact ev_icmp_ne 133 d_Mo_isRead_124 (by decide) kt kf
theorem t_Mo_isRead_117 {d : Nat} {st : List Value} {o0 : Option Value} {o1 : Option Value} {o2 : Option Value} {o3 : Option Value} {o4 : Option Value} {x5 : Int32} {x6 : Int64} {o7 : Option Value} {w : qk_W} {nc ns : Nat} {Q : Option Value ⊕ Nat → qk_W → Nat → Nat → Prop}  (hc1 : qk_c2 [o0, o1, o2, o3, o4, some (.int x5), some (.long x6), o7] 6 = true) (kt : ¬ x5 = (1 : Int32) → Ev d m_Mo_isRead 133 [o0, o1, o2, o3, o4, some (.int x5), some (.long x6), none] st w nc ns Q) (kf : x5 = (1 : Int32) → Ev d m_Mo_isRead 127 [o0, o1, o2, o3, o4, some (.int x5), some (.long x6), none] st w nc ns Q) : Ev d m_Mo_isRead 117 [o0, o1, o2, o3, o4, some (.int x5), some (.long x6), o7] st w nc ns Q := by
  refine ev_lload d_Mo_isRead_117 rfl ?_
  refine ev_lstore d_Mo_isRead_119 (by decide) hc1 ?_
  refine ev_iload d_Mo_isRead_121 rfl ?_
  refine ev_iconst 1 d_Mo_isRead_123 (by decide) ?_
  exact ev_icmp_ne 133 d_Mo_isRead_124 (by decide) kt kf
theorem t_Mo_isRead_127 {d : Nat} {st : List Value} {a0 : Nat} {o1 : Option Value} {o2 : Option Value} {o3 : Option Value} {o4 : Option Value} {x5 : Int32} {x6 : Int64} {o7 : Option Value} {fs3 : List Value} {c5 : Nat} {n10 : Nat} {f11 : Nat → Int32} {w : qk_W} {nc ns : Nat} {Q : Option Value ⊕ Nat → qk_W → Nat → Nat → Prop}  (hc1 : qk_c2 [some (.ref a0), o1, o2, o3, o4, some (.int x5), some (.long x6), o7] 3 = true) (hw2 : wo w a0 11 fs3) (hf4 : fs3[31]? = some (.ref c5)) (ha9 : wi w c5 n10 f11) (hi12 : vp_in (x5 - 1) n10) (hi : vp_in x5 n10) (h16 : 16 ≤ c5) (k : Ev d m_Mo_isRead 157 [some (.ref a0), o1, o2, some (.int (Int64.toInt32 x6)), o4, some (.int x5), some (.long x6), o7] st (qk_set w c5 (.inl (.int, n10, .inl (upd f11 x5.toNatClampNeg ((f11 (x5 - 1).toNatClampNeg) + (Int64.toInt32 x6)))))) nc ns Q) : Ev d m_Mo_isRead 127 [some (.ref a0), o1, o2, o3, o4, some (.int x5), some (.long x6), o7] st w nc ns Q := by
  refine ev_lload d_Mo_isRead_127 rfl ?_
  refine ev_l2i d_Mo_isRead_129 ?_
  refine ev_goto 138 d_Mo_isRead_130 (by decide) ?_
  refine ev_istore_n d_Mo_isRead_138 (by decide) hc1 ?_
  refine ev_aload_n d_Mo_isRead_139 rfl rfl ?_
  refine ev_getf d_Mo_isRead_140 fl_Mo_66 hw2.1 hw2.2 hf4 ?_
  refine ev_iload d_Mo_isRead_143 rfl ?_
  refine ev_aload_n d_Mo_isRead_145 rfl rfl ?_
  refine ev_getf d_Mo_isRead_146 fl_Mo_66 hw2.1 hw2.2 hf4 ?_
  refine ev_iload d_Mo_isRead_149 rfl ?_
  refine ev_iconst 1 d_Mo_isRead_151 (by decide) ?_
  refine ev_isub d_Mo_isRead_152 ?_
  refine ev_iald d_Mo_isRead_153 ha9 hi12 ?_
  refine ev_iload_n d_Mo_isRead_154 rfl ?_
  refine ev_iadd d_Mo_isRead_155 ?_
  exact ev_iast d_Mo_isRead_156 h16 ha9 hi k
theorem t_Mo_isRead_133 {d : Nat} {st : List Value} {a0 : Nat} {o1 : Option Value} {o2 : Option Value} {x3 : Int32} {o4 : Option Value} {x5 : Int32} {x6 : Int64} {o7 : Option Value} {fs3 : List Value} {c5 : Nat} {n10 : Nat} {f11 : Nat → Int32} {w : qk_W} {nc ns : Nat} {Q : Option Value ⊕ Nat → qk_W → Nat → Nat → Prop}  (hc1 : qk_c2 [some (.ref a0), o1, o2, some (.int x3), o4, some (.int x5), some (.long x6), o7] 3 = true) (hw2 : wo w a0 11 fs3) (hf4 : fs3[31]? = some (.ref c5)) (ha9 : wi w c5 n10 f11) (hi12 : vp_in (x5 - 1) n10) (hi : vp_in x5 n10) (h16 : 16 ≤ c5) (k : Ev d m_Mo_isRead 157 [some (.ref a0), o1, o2, some (.int (x3 + (Int64.toInt32 x6))), o4, some (.int x5), some (.long x6), o7] st (qk_set w c5 (.inl (.int, n10, .inl (upd f11 x5.toNatClampNeg ((f11 (x5 - 1).toNatClampNeg) + (x3 + (Int64.toInt32 x6))))))) nc ns Q) : Ev d m_Mo_isRead 133 [some (.ref a0), o1, o2, some (.int x3), o4, some (.int x5), some (.long x6), o7] st w nc ns Q := by
  refine ev_iload_n d_Mo_isRead_133 rfl ?_
  refine ev_lload d_Mo_isRead_134 rfl ?_
  refine ev_l2i d_Mo_isRead_136 ?_
  refine ev_iadd d_Mo_isRead_137 ?_
  refine ev_istore_n d_Mo_isRead_138 (by decide) hc1 ?_
  refine ev_aload_n d_Mo_isRead_139 rfl rfl ?_
  refine ev_getf d_Mo_isRead_140 fl_Mo_66 hw2.1 hw2.2 hf4 ?_
  refine ev_iload d_Mo_isRead_143 rfl ?_
  refine ev_aload_n d_Mo_isRead_145 rfl rfl ?_
  refine ev_getf d_Mo_isRead_146 fl_Mo_66 hw2.1 hw2.2 hf4 ?_
  refine ev_iload d_Mo_isRead_149 rfl ?_
  refine ev_iconst 1 d_Mo_isRead_151 (by decide) ?_
  refine ev_isub d_Mo_isRead_152 ?_
  refine ev_iald d_Mo_isRead_153 ha9 hi12 ?_
  refine ev_iload_n d_Mo_isRead_154 rfl ?_
  refine ev_iadd d_Mo_isRead_155 ?_
  exact ev_iast d_Mo_isRead_156 h16 ha9 hi k
theorem t_Mo_isRead_157 {d : Nat} {st : List Value} {o0 : Option Value} {o1 : Option Value} {o2 : Option Value} {o3 : Option Value} {o4 : Option Value} {x5 : Int32} {o6 : Option Value} {o7 : Option Value} {w : qk_W} {nc ns : Nat} {Q : Option Value ⊕ Nat → qk_W → Nat → Nat → Prop}  (hc1 : qk_c2 [o0, o1, o2, o3, o4, some (.int x5), o6, o7] 5 = true) (k : Ev d m_Mo_isRead 15 [o0, o1, o2, o3, o4, some (.int (x5 + 1)), o6, o7] st w nc ns Q) : Ev d m_Mo_isRead 157 [o0, o1, o2, o3, o4, some (.int x5), o6, o7] st w nc ns Q := by
  refine ev_iinc 1 d_Mo_isRead_157 (by decide) rfl (by decide) hc1 ?_
  refine ev_goto 15 d_Mo_isRead_160 (by decide) ?_
  exact k
theorem t_Mo_isRead_163 {d : Nat} {st : List Value} {a0 : Nat} {o1 : Option Value} {x2 : Int32} {o3 : Option Value} {o4 : Option Value} {o5 : Option Value} {o6 : Option Value} {o7 : Option Value} {fs2 : List Value} {n4 : Int32} {w : qk_W} {nc ns : Nat} {Q : Option Value ⊕ Nat → qk_W → Nat → Nat → Prop}  (hw1 : wo w a0 11 fs2) (hf3 : fs2[25]? = some (.int n4)) (kt : (x2 - n4) ≤ (7 : Int32) → Ev d m_Mo_isRead 176 [some (.ref a0), o1, some (.int x2), o3, o4, o5, o6, o7] st w nc ns Q) (kf : ¬ ((x2 - n4) ≤ (7 : Int32)) → Ev d m_Mo_isRead 174 [some (.ref a0), o1, some (.int x2), o3, o4, o5, o6, o7] st w nc ns Q) : Ev d m_Mo_isRead 163 [some (.ref a0), o1, some (.int x2), o3, o4, o5, o6, o7] st w nc ns Q := by
  refine ev_iload_n d_Mo_isRead_163 rfl ?_
  refine ev_aload_n d_Mo_isRead_164 rfl rfl ?_
  refine ev_getf d_Mo_isRead_165 fl_Mo_115 hw1.1 hw1.2 hf3 ?_
  refine ev_isub d_Mo_isRead_168 ?_
  refine ev_bipush 7 d_Mo_isRead_169 (by decide) ?_
  exact ev_icmp_le 176 d_Mo_isRead_171 (by decide) kt kf
theorem t_Mo_isRead_174 {d : Nat} {o0 : Option Value} {o1 : Option Value} {o2 : Option Value} {o3 : Option Value} {o4 : Option Value} {o5 : Option Value} {o6 : Option Value} {o7 : Option Value} {w : qk_W} {nc ns : Nat} {Q : Option Value ⊕ Nat → qk_W → Nat → Nat → Prop}   (hq : Q (.inl (some (.int 0))) w nc ns) : Ev d m_Mo_isRead 174 [o0, o1, o2, o3, o4, o5, o6, o7] [] w nc ns Q := by
  refine ev_iconst 0 d_Mo_isRead_174 (by decide) ?_
  exact ev_iret d_Mo_isRead_175 rfl rfl hq
theorem t_Mo_isRead_176 {d : Nat} {st : List Value} {a0 : Nat} {o1 : Option Value} {x2 : Int32} {o3 : Option Value} {o4 : Option Value} {o5 : Option Value} {o6 : Option Value} {o7 : Option Value} {fs2 : List Value} {n4 : Int32} {w : qk_W} {nc ns : Nat} {Q : Option Value ⊕ Nat → qk_W → Nat → Nat → Prop}  (hw1 : wo w a0 11 fs2) (hf3 : fs2[25]? = some (.int n4)) (h8 : (st.map fun v => Value.category v).sum ≤ 8) (k : Ev d m_Mo_get 0 [some (.ref a0), some (.int (x2 - n4)), none, none, none] [] w nc ns (fun r w1 nc1 ns1 => match r with | .inl v => Ev (d + 1) m_Mo_isRead 186 [some (.ref a0), o1, some (.int x2), o3, o4, o5, o6, o7] (v.toList ++ st) w1 nc1 ns1 Q | .inr x => Q (.inr x) w1 nc1 ns1)) : Ev (d + 1) m_Mo_isRead 176 [some (.ref a0), o1, some (.int x2), o3, o4, o5, o6, o7] st w nc ns Q := by
  refine ev_aload_n d_Mo_isRead_176 rfl rfl ?_
  refine ev_iload_n d_Mo_isRead_177 rfl ?_
  refine ev_aload_n d_Mo_isRead_178 rfl rfl ?_
  refine ev_getf d_Mo_isRead_179 fl_Mo_115 hw1.1 hw1.2 hf3 ?_
  refine ev_isub d_Mo_isRead_182 ?_
  exact ev_call (M' := m_Mo_get) (As := [.ref a0, .int (x2 - n4)]) (st := st) d_Mo_isRead_183 i_Mo_get (fun h => absurd h (by decide +kernel)) cw_Mo_161 rfl rfl ⟨hw1.1, 11, _, _, hw1.2, rfl, rfl⟩ rfl (Nat.le_of_ble_eq_true rfl) h8 k
theorem t_Mo_isRead_186 {d : Nat} {st : List Value} {o0 : Option Value} {o1 : Option Value} {o2 : Option Value} {o3 : Option Value} {o4 : Option Value} {o5 : Option Value} {o6 : Option Value} {o7 : Option Value} {y0 : Int64} {w : qk_W} {nc ns : Nat} {Q : Option Value ⊕ Nat → qk_W → Nat → Nat → Prop}   (kt : ¬ (lg_cmp y0 0) = 0 → Ev d m_Mo_isRead 195 [o0, o1, o2, o3, o4, o5, o6, o7] st w nc ns Q) (kf : (lg_cmp y0 0) = 0 → Ev d m_Mo_isRead 191 [o0, o1, o2, o3, o4, o5, o6, o7] st w nc ns Q) : Ev d m_Mo_isRead 186 [o0, o1, o2, o3, o4, o5, o6, o7] (.long y0 :: st) w nc ns Q := by
  refine ev_lconst 0 d_Mo_isRead_186 (by decide) ?_
  refine ev_lcmp d_Mo_isRead_187 ?_
  exact ev_if_ne 195 d_Mo_isRead_188 (by decide) kt kf
theorem t_Mo_isRead_191 {d : Nat} {o0 : Option Value} {o1 : Option Value} {o2 : Option Value} {o3 : Option Value} {o4 : Option Value} {o5 : Option Value} {o6 : Option Value} {o7 : Option Value} {w : qk_W} {nc ns : Nat} {Q : Option Value ⊕ Nat → qk_W → Nat → Nat → Prop}   (hq : Q (.inl (some (.int 1))) w nc ns) : Ev d m_Mo_isRead 191 [o0, o1, o2, o3, o4, o5, o6, o7] [] w nc ns Q := by
  refine ev_iconst 1 d_Mo_isRead_191 (by decide) ?_
  refine ev_goto 196 d_Mo_isRead_192 (by decide) ?_
  exact ev_iret d_Mo_isRead_196 rfl rfl hq
theorem t_Mo_isRead_195 {d : Nat} {o0 : Option Value} {o1 : Option Value} {o2 : Option Value} {o3 : Option Value} {o4 : Option Value} {o5 : Option Value} {o6 : Option Value} {o7 : Option Value} {w : qk_W} {nc ns : Nat} {Q : Option Value ⊕ Nat → qk_W → Nat → Nat → Prop}   (hq : Q (.inl (some (.int 0))) w nc ns) : Ev d m_Mo_isRead 195 [o0, o1, o2, o3, o4, o5, o6, o7] [] w nc ns Q := by
  refine ev_iconst 0 d_Mo_isRead_195 (by decide) ?_
  exact ev_iret d_Mo_isRead_196 rfl rfl hq
/-! Mo_has -/
theorem cw_Mo_202 : qk_cw "QuakeLinkModel" m_Mo_isHeard.1 (.invokevirtual 202) := ⟨(lw_i5 _ (List.mem_of_getElem? (i := 192) rfl)), (lw_i5 _ (List.mem_of_getElem? (i := 194) rfl)), (lw_i0 _ (List.mem_of_getElem? (i := 42) rfl))⟩
theorem d_Mo_has_0 : decode m_Mo_has.2.1 0 = .ok (.aload_n 0, 1) := by decide +kernel
theorem d_Mo_has_1 : decode m_Mo_has.2.1 1 = .ok (.iload_n 1, 1) := by decide +kernel
theorem d_Mo_has_2 : decode m_Mo_has.2.1 2 = .ok (.invokestatic 101, 3) := by decide +kernel
theorem d_Mo_has_5 : decode m_Mo_has.2.1 5 = .ok (.ifCond .eq 7, 3) := by decide +kernel
theorem d_Mo_has_8 : decode m_Mo_has.2.1 8 = .ok (.iconst 0, 1) := by decide +kernel
theorem d_Mo_has_9 : decode m_Mo_has.2.1 9 = .ok (.goto 4, 3) := by decide +kernel
theorem d_Mo_has_12 : decode m_Mo_has.2.1 12 = .ok (.iconst 1, 1) := by decide +kernel
theorem d_Mo_has_13 : decode m_Mo_has.2.1 13 = .ok (.putfield 69, 3) := by decide +kernel
theorem d_Mo_has_16 : decode m_Mo_has.2.1 16 = .ok (.aload_n 0, 1) := by decide +kernel
theorem d_Mo_has_17 : decode m_Mo_has.2.1 17 = .ok (.getfield 69, 3) := by decide +kernel
theorem d_Mo_has_20 : decode m_Mo_has.2.1 20 = .ok (.ifCond .ne 16, 3) := by decide +kernel
theorem d_Mo_has_23 : decode m_Mo_has.2.1 23 = .ok (.aload_n 0, 1) := by decide +kernel
theorem d_Mo_has_24 : decode m_Mo_has.2.1 24 = .ok (.iload_n 1, 1) := by decide +kernel
theorem d_Mo_has_25 : decode m_Mo_has.2.1 25 = .ok (.iload_n 2, 1) := by decide +kernel
theorem d_Mo_has_26 : decode m_Mo_has.2.1 26 = .ok (.invokevirtual 202, 3) := by decide +kernel
theorem d_Mo_has_29 : decode m_Mo_has.2.1 29 = .ok (.ifCond .eq 7, 3) := by decide +kernel
theorem d_Mo_has_32 : decode m_Mo_has.2.1 32 = .ok (.iconst 1, 1) := by decide +kernel
theorem d_Mo_has_33 : decode m_Mo_has.2.1 33 = .ok (.goto 4, 3) := by decide +kernel
theorem d_Mo_has_36 : decode m_Mo_has.2.1 36 = .ok (.iconst 0, 1) := by decide +kernel
theorem d_Mo_has_37 : decode m_Mo_has.2.1 37 = .ok (.ireturn, 1) := by decide +kernel
theorem t_Mo_has_0 {d : Nat} {st : List Value} {v0 : Value} {x1 : Int32} {o2 : Option Value} {w : qk_W} {nc ns : Nat} {Q : Option Value ⊕ Nat → qk_W → Nat → Nat → Prop} (hv0 : qk_isr v0 = true) (h8 : ((v0 :: st).map fun v => Value.category v).sum ≤ 8) (k : Ev d m_Mo_isChannel 0 [some (.int x1)] [] w nc ns (fun r w1 nc1 ns1 => match r with | .inl v => Ev (d + 1) m_Mo_has 5 [some v0, some (.int x1), o2] (v.toList ++ (v0 :: st)) w1 nc1 ns1 Q | .inr x => Q (.inr x) w1 nc1 ns1)) : Ev (d + 1) m_Mo_has 0 [some v0, some (.int x1), o2] st w nc ns Q := by
  refine ev_aload_n d_Mo_has_0 rfl hv0 ?_
  refine ev_iload_n d_Mo_has_1 rfl ?_
  exact ev_call (M' := m_Mo_isChannel) (As := [.int x1]) (st := (v0 :: st)) d_Mo_has_2 i_Mo_isChannel (fun h => absurd h (by decide +kernel)) cw_Mo_101 rfl rfl trivial rfl (Nat.le_of_ble_eq_true rfl) h8 k
theorem t_Mo_has_5 {d : Nat} {st : List Value} {o0 : Option Value} {o1 : Option Value} {o2 : Option Value} {y0 : Int32} {w : qk_W} {nc ns : Nat} {Q : Option Value ⊕ Nat → qk_W → Nat → Nat → Prop}   (kt : y0 = 0 → Ev d m_Mo_has 12 [o0, o1, o2] st w nc ns Q) (kf : ¬ (y0 = 0) → Ev d m_Mo_has 8 [o0, o1, o2] st w nc ns Q) : Ev d m_Mo_has 5 [o0, o1, o2] (.int y0 :: st) w nc ns Q := by
  exact ev_if_eq 12 d_Mo_has_5 (by decide) kt kf
theorem t_Mo_has_8 {d : Nat} {st : List Value} {o0 : Option Value} {o1 : Option Value} {o2 : Option Value} {b0 : Nat} {fs2 : List Value} {w : qk_W} {nc ns : Nat} {Q : Option Value ⊕ Nat → qk_W → Nat → Nat → Prop}  (hw1 : wo w b0 11 fs2) (hk : 0 < fs2.length) (k : Ev d m_Mo_has 16 [o0, o1, o2] st (qk_set w b0 (.inr (11, fs2.set 0 (.int 0)))) nc ns Q) : Ev d m_Mo_has 8 [o0, o1, o2] (.ref b0 :: st) w nc ns Q := by
  refine ev_iconst 0 d_Mo_has_8 (by decide) ?_
  refine ev_goto 13 d_Mo_has_9 (by decide) ?_
  exact ev_putf d_Mo_has_13 fl_Mo_69 rfl hw1.1 hw1.2 hk (qk_fitI _) k
theorem t_Mo_has_12 {d : Nat} {st : List Value} {o0 : Option Value} {o1 : Option Value} {o2 : Option Value} {b0 : Nat} {fs2 : List Value} {w : qk_W} {nc ns : Nat} {Q : Option Value ⊕ Nat → qk_W → Nat → Nat → Prop}  (hw1 : wo w b0 11 fs2) (hk : 0 < fs2.length) (k : Ev d m_Mo_has 16 [o0, o1, o2] st (qk_set w b0 (.inr (11, fs2.set 0 (.int 1)))) nc ns Q) : Ev d m_Mo_has 12 [o0, o1, o2] (.ref b0 :: st) w nc ns Q := by
  refine ev_iconst 1 d_Mo_has_12 (by decide) ?_
  exact ev_putf d_Mo_has_13 fl_Mo_69 rfl hw1.1 hw1.2 hk (qk_fitI _) k
theorem t_Mo_has_16 {d : Nat} {st : List Value} {a0 : Nat} {o1 : Option Value} {o2 : Option Value} {fs2 : List Value} {n4 : Int32} {w : qk_W} {nc ns : Nat} {Q : Option Value ⊕ Nat → qk_W → Nat → Nat → Prop}  (hw1 : wo w a0 11 fs2) (hf3 : fs2[0]? = some (.int n4)) (kt : ¬ n4 = 0 → Ev d m_Mo_has 36 [some (.ref a0), o1, o2] st w nc ns Q) (kf : n4 = 0 → Ev d m_Mo_has 23 [some (.ref a0), o1, o2] st w nc ns Q) : Ev d m_Mo_has 16 [some (.ref a0), o1, o2] st w nc ns Q := by
  refine ev_aload_n d_Mo_has_16 rfl rfl ?_
  refine ev_getf d_Mo_has_17 fl_Mo_69 hw1.1 hw1.2 hf3 ?_
  exact ev_if_ne 36 d_Mo_has_20 (by decide) kt kf
theorem t_Mo_has_23 {d : Nat} {st : List Value} {a0 : Nat} {x1 : Int32} {x2 : Int32} {fsb : List Value} {w : qk_W} {nc ns : Nat} {Q : Option Value ⊕ Nat → qk_W → Nat → Nat → Prop}  (hb : wo w a0 11 fsb) (h8 : (st.map fun v => Value.category v).sum ≤ 8) (k : Ev d m_Mo_isHeard 0 [some (.ref a0), some (.int x1), some (.int x2)] [] w nc ns (fun r w1 nc1 ns1 => match r with | .inl v => Ev (d + 1) m_Mo_has 29 [some (.ref a0), some (.int x1), some (.int x2)] (v.toList ++ st) w1 nc1 ns1 Q | .inr x => Q (.inr x) w1 nc1 ns1)) : Ev (d + 1) m_Mo_has 23 [some (.ref a0), some (.int x1), some (.int x2)] st w nc ns Q := by
  refine ev_aload_n d_Mo_has_23 rfl rfl ?_
  refine ev_iload_n d_Mo_has_24 rfl ?_
  refine ev_iload_n d_Mo_has_25 rfl ?_
  exact ev_call (M' := m_Mo_isHeard) (As := [.ref a0, .int x1, .int x2]) (st := st) d_Mo_has_26 i_Mo_isHeard (fun h => absurd h (by decide +kernel)) cw_Mo_202 rfl rfl ⟨hb.1, 11, _, _, hb.2, rfl, rfl⟩ rfl (Nat.le_of_ble_eq_true rfl) h8 k
theorem t_Mo_has_29 {d : Nat} {st : List Value} {o0 : Option Value} {o1 : Option Value} {o2 : Option Value} {y0 : Int32} {w : qk_W} {nc ns : Nat} {Q : Option Value ⊕ Nat → qk_W → Nat → Nat → Prop}   (kt : y0 = 0 → Ev d m_Mo_has 36 [o0, o1, o2] st w nc ns Q) (kf : ¬ (y0 = 0) → Ev d m_Mo_has 32 [o0, o1, o2] st w nc ns Q) : Ev d m_Mo_has 29 [o0, o1, o2] (.int y0 :: st) w nc ns Q := by
  exact ev_if_eq 36 d_Mo_has_29 (by decide) kt kf
theorem t_Mo_has_32 {d : Nat} {o0 : Option Value} {o1 : Option Value} {o2 : Option Value} {w : qk_W} {nc ns : Nat} {Q : Option Value ⊕ Nat → qk_W → Nat → Nat → Prop}   (hq : Q (.inl (some (.int 1))) w nc ns) : Ev d m_Mo_has 32 [o0, o1, o2] [] w nc ns Q := by
  refine ev_iconst 1 d_Mo_has_32 (by decide) ?_
  refine ev_goto 37 d_Mo_has_33 (by decide) ?_
  exact ev_iret d_Mo_has_37 rfl rfl hq
theorem t_Mo_has_36 {d : Nat} {o0 : Option Value} {o1 : Option Value} {o2 : Option Value} {w : qk_W} {nc ns : Nat} {Q : Option Value ⊕ Nat → qk_W → Nat → Nat → Prop}   (hq : Q (.inl (some (.int 0))) w nc ns) : Ev d m_Mo_has 36 [o0, o1, o2] [] w nc ns Q := by
  refine ev_iconst 0 d_Mo_has_36 (by decide) ?_
  exact ev_iret d_Mo_has_37 rfl rfl hq
/-! Mo_isHeard -/
theorem d_Mo_isHeard_0 : decode m_Mo_isHeard.2.1 0 = .ok (.iload_n 2, 1) := by decide +kernel
theorem d_Mo_isHeard_1 : decode m_Mo_isHeard.2.1 1 = .ok (.ifCond .lt 27, 3) := by decide +kernel
theorem d_Mo_isHeard_4 : decode m_Mo_isHeard.2.1 4 = .ok (.iload_n 2, 1) := by decide +kernel
theorem d_Mo_isHeard_5 : decode m_Mo_isHeard.2.1 5 = .ok (.ldc 46, 2) := by decide +kernel
theorem d_Mo_isHeard_7 : decode m_Mo_isHeard.2.1 7 = .ok (.if_icmp .ge 21, 3) := by decide +kernel
theorem d_Mo_isHeard_10 : decode m_Mo_isHeard.2.1 10 = .ok (.aload_n 0, 1) := by decide +kernel
theorem d_Mo_isHeard_11 : decode m_Mo_isHeard.2.1 11 = .ok (.getfield 60, 3) := by decide +kernel
theorem d_Mo_isHeard_14 : decode m_Mo_isHeard.2.1 14 = .ok (.iload_n 1, 1) := by decide +kernel
theorem d_Mo_isHeard_15 : decode m_Mo_isHeard.2.1 15 = .ok (.ldc 46, 2) := by decide +kernel
theorem d_Mo_isHeard_17 : decode m_Mo_isHeard.2.1 17 = .ok (.imul, 1) := by decide +kernel
theorem d_Mo_isHeard_18 : decode m_Mo_isHeard.2.1 18 = .ok (.iload_n 2, 1) := by decide +kernel
theorem d_Mo_isHeard_19 : decode m_Mo_isHeard.2.1 19 = .ok (.iadd, 1) := by decide +kernel
theorem d_Mo_isHeard_20 : decode m_Mo_isHeard.2.1 20 = .ok (.baload, 1) := by decide +kernel
theorem d_Mo_isHeard_21 : decode m_Mo_isHeard.2.1 21 = .ok (.ifCond .le 7, 3) := by decide +kernel
theorem d_Mo_isHeard_24 : decode m_Mo_isHeard.2.1 24 = .ok (.iconst 1, 1) := by decide +kernel
theorem d_Mo_isHeard_25 : decode m_Mo_isHeard.2.1 25 = .ok (.goto 4, 3) := by decide +kernel
theorem d_Mo_isHeard_28 : decode m_Mo_isHeard.2.1 28 = .ok (.iconst 0, 1) := by decide +kernel
theorem d_Mo_isHeard_29 : decode m_Mo_isHeard.2.1 29 = .ok (.ireturn, 1) := by decide +kernel
theorem t_Mo_isHeard_0 {d : Nat} {st : List Value} {o0 : Option Value} {o1 : Option Value} {x2 : Int32} {w : qk_W} {nc ns : Nat} {Q : Option Value ⊕ Nat → qk_W → Nat → Nat → Prop}   (kt : x2 < 0 → Ev d m_Mo_isHeard 28 [o0, o1, some (.int x2)] st w nc ns Q) (kf : ¬ (x2 < 0) → Ev d m_Mo_isHeard 4 [o0, o1, some (.int x2)] st w nc ns Q) : Ev d m_Mo_isHeard 0 [o0, o1, some (.int x2)] st w nc ns Q := by
  refine ev_iload_n d_Mo_isHeard_0 rfl ?_
  exact ev_if_lt 28 d_Mo_isHeard_1 (by decide) kt kf
theorem t_Mo_isHeard_4 {d : Nat} {st : List Value} {o0 : Option Value} {o1 : Option Value} {x2 : Int32} {w : qk_W} {nc ns : Nat} {Q : Option Value ⊕ Nat → qk_W → Nat → Nat → Prop}   (kt : (32768 : Int32) ≤ x2 → Ev d m_Mo_isHeard 28 [o0, o1, some (.int x2)] st w nc ns Q) (kf : ¬ ((32768 : Int32) ≤ x2) → Ev d m_Mo_isHeard 10 [o0, o1, some (.int x2)] st w nc ns Q) : Ev d m_Mo_isHeard 4 [o0, o1, some (.int x2)] st w nc ns Q := by
  refine ev_iload_n d_Mo_isHeard_4 rfl ?_
  refine ev_ldc 32768 d_Mo_isHeard_5 lc_Mo_46 ?_
  exact ev_icmp_ge 28 d_Mo_isHeard_7 (by decide) kt kf
theorem t_Mo_isHeard_10 {d : Nat} {st : List Value} {a0 : Nat} {x1 : Int32} {x2 : Int32} {fs2 : List Value} {c4 : Nat} {n6 : Nat} {f7 : Nat → Int32} {w : qk_W} {nc ns : Nat} {Q : Option Value ⊕ Nat → qk_W → Nat → Nat → Prop}  (hw1 : wo w a0 11 fs2) (hf3 : fs2[19]? = some (.ref c4)) (ha5 : wb w c4 n6 f7) (hi8 : vp_in ((x1 * 32768) + x2) n6) (kt : (f7 ((x1 * 32768) + x2).toNatClampNeg) ≤ 0 → Ev d m_Mo_isHeard 28 [some (.ref a0), some (.int x1), some (.int x2)] st w nc ns Q) (kf : ¬ ((f7 ((x1 * 32768) + x2).toNatClampNeg) ≤ 0) → Ev d m_Mo_isHeard 24 [some (.ref a0), some (.int x1), some (.int x2)] st w nc ns Q) : Ev d m_Mo_isHeard 10 [some (.ref a0), some (.int x1), some (.int x2)] st w nc ns Q := by
  refine ev_aload_n d_Mo_isHeard_10 rfl rfl ?_
  refine ev_getf d_Mo_isHeard_11 fl_Mo_60 hw1.1 hw1.2 hf3 ?_
  refine ev_iload_n d_Mo_isHeard_14 rfl ?_
  refine ev_ldc 32768 d_Mo_isHeard_15 lc_Mo_46 ?_
  refine ev_imul d_Mo_isHeard_17 ?_
  refine ev_iload_n d_Mo_isHeard_18 rfl ?_
  refine ev_iadd d_Mo_isHeard_19 ?_
  refine ev_bald d_Mo_isHeard_20 ha5.1 ha5.2 hi8 ?_
  exact ev_if_le 28 d_Mo_isHeard_21 (by decide) kt kf
theorem t_Mo_isHeard_24 {d : Nat} {o0 : Option Value} {o1 : Option Value} {o2 : Option Value} {w : qk_W} {nc ns : Nat} {Q : Option Value ⊕ Nat → qk_W → Nat → Nat → Prop}   (hq : Q (.inl (some (.int 1))) w nc ns) : Ev d m_Mo_isHeard 24 [o0, o1, o2] [] w nc ns Q := by
  refine ev_iconst 1 d_Mo_isHeard_24 (by decide) ?_
  refine ev_goto 29 d_Mo_isHeard_25 (by decide) ?_
  exact ev_iret d_Mo_isHeard_29 rfl rfl hq
theorem t_Mo_isHeard_28 {d : Nat} {o0 : Option Value} {o1 : Option Value} {o2 : Option Value} {w : qk_W} {nc ns : Nat} {Q : Option Value ⊕ Nat → qk_W → Nat → Nat → Prop}   (hq : Q (.inl (some (.int 0))) w nc ns) : Ev d m_Mo_isHeard 28 [o0, o1, o2] [] w nc ns Q := by
  refine ev_iconst 0 d_Mo_isHeard_28 (by decide) ?_
  exact ev_iret d_Mo_isHeard_29 rfl rfl hq
/-! Mo_at -/
theorem d_Mo_at_0 : decode m_Mo_at.2.1 0 = .ok (.aload_n 0, 1) := by decide +kernel
theorem d_Mo_at_1 : decode m_Mo_at.2.1 1 = .ok (.iload_n 1, 1) := by decide +kernel
theorem d_Mo_at_2 : decode m_Mo_at.2.1 2 = .ok (.invokestatic 101, 3) := by decide +kernel
theorem d_Mo_at_5 : decode m_Mo_at.2.1 5 = .ok (.ifCond .eq 7, 3) := by decide +kernel
theorem d_Mo_at_8 : decode m_Mo_at.2.1 8 = .ok (.iconst 0, 1) := by decide +kernel
theorem d_Mo_at_9 : decode m_Mo_at.2.1 9 = .ok (.goto 4, 3) := by decide +kernel
theorem d_Mo_at_12 : decode m_Mo_at.2.1 12 = .ok (.iconst 1, 1) := by decide +kernel
theorem d_Mo_at_13 : decode m_Mo_at.2.1 13 = .ok (.putfield 69, 3) := by decide +kernel
theorem d_Mo_at_16 : decode m_Mo_at.2.1 16 = .ok (.aload_n 0, 1) := by decide +kernel
theorem d_Mo_at_17 : decode m_Mo_at.2.1 17 = .ok (.getfield 69, 3) := by decide +kernel
theorem d_Mo_at_20 : decode m_Mo_at.2.1 20 = .ok (.ifCond .ne 26, 3) := by decide +kernel
theorem d_Mo_at_23 : decode m_Mo_at.2.1 23 = .ok (.aload_n 0, 1) := by decide +kernel
theorem d_Mo_at_24 : decode m_Mo_at.2.1 24 = .ok (.iload_n 1, 1) := by decide +kernel
theorem d_Mo_at_25 : decode m_Mo_at.2.1 25 = .ok (.iload_n 2, 1) := by decide +kernel
theorem d_Mo_at_26 : decode m_Mo_at.2.1 26 = .ok (.invokevirtual 202, 3) := by decide +kernel
theorem d_Mo_at_29 : decode m_Mo_at.2.1 29 = .ok (.ifCond .eq 17, 3) := by decide +kernel
theorem d_Mo_at_32 : decode m_Mo_at.2.1 32 = .ok (.aload_n 0, 1) := by decide +kernel
theorem d_Mo_at_33 : decode m_Mo_at.2.1 33 = .ok (.getfield 57, 3) := by decide +kernel
theorem d_Mo_at_36 : decode m_Mo_at.2.1 36 = .ok (.iload_n 1, 1) := by decide +kernel
theorem d_Mo_at_37 : decode m_Mo_at.2.1 37 = .ok (.ldc 46, 2) := by decide +kernel
theorem d_Mo_at_39 : decode m_Mo_at.2.1 39 = .ok (.imul, 1) := by decide +kernel
theorem d_Mo_at_40 : decode m_Mo_at.2.1 40 = .ok (.iload_n 2, 1) := by decide +kernel
theorem d_Mo_at_41 : decode m_Mo_at.2.1 41 = .ok (.iadd, 1) := by decide +kernel
theorem d_Mo_at_42 : decode m_Mo_at.2.1 42 = .ok (.iaload, 1) := by decide +kernel
theorem d_Mo_at_43 : decode m_Mo_at.2.1 43 = .ok (.goto 4, 3) := by decide +kernel
theorem d_Mo_at_46 : decode m_Mo_at.2.1 46 = .ok (.iconst 0, 1) := by decide +kernel
theorem d_Mo_at_47 : decode m_Mo_at.2.1 47 = .ok (.ireturn, 1) := by decide +kernel
theorem t_Mo_at_0 {d : Nat} {st : List Value} {v0 : Value} {x1 : Int32} {o2 : Option Value} {w : qk_W} {nc ns : Nat} {Q : Option Value ⊕ Nat → qk_W → Nat → Nat → Prop} (hv0 : qk_isr v0 = true) (h8 : ((v0 :: st).map fun v => Value.category v).sum ≤ 8) (k : Ev d m_Mo_isChannel 0 [some (.int x1)] [] w nc ns (fun r w1 nc1 ns1 => match r with | .inl v => Ev (d + 1) m_Mo_at 5 [some v0, some (.int x1), o2] (v.toList ++ (v0 :: st)) w1 nc1 ns1 Q | .inr x => Q (.inr x) w1 nc1 ns1)) : Ev (d + 1) m_Mo_at 0 [some v0, some (.int x1), o2] st w nc ns Q := by
  refine ev_aload_n d_Mo_at_0 rfl hv0 ?_
  refine ev_iload_n d_Mo_at_1 rfl ?_
  exact ev_call (M' := m_Mo_isChannel) (As := [.int x1]) (st := (v0 :: st)) d_Mo_at_2 i_Mo_isChannel (fun h => absurd h (by decide +kernel)) cw_Mo_101 rfl rfl trivial rfl (Nat.le_of_ble_eq_true rfl) h8 k
theorem t_Mo_at_5 {d : Nat} {st : List Value} {o0 : Option Value} {o1 : Option Value} {o2 : Option Value} {y0 : Int32} {w : qk_W} {nc ns : Nat} {Q : Option Value ⊕ Nat → qk_W → Nat → Nat → Prop}   (kt : y0 = 0 → Ev d m_Mo_at 12 [o0, o1, o2] st w nc ns Q) (kf : ¬ (y0 = 0) → Ev d m_Mo_at 8 [o0, o1, o2] st w nc ns Q) : Ev d m_Mo_at 5 [o0, o1, o2] (.int y0 :: st) w nc ns Q := by
  exact ev_if_eq 12 d_Mo_at_5 (by decide) kt kf
theorem t_Mo_at_8 {d : Nat} {st : List Value} {o0 : Option Value} {o1 : Option Value} {o2 : Option Value} {b0 : Nat} {fs2 : List Value} {w : qk_W} {nc ns : Nat} {Q : Option Value ⊕ Nat → qk_W → Nat → Nat → Prop}  (hw1 : wo w b0 11 fs2) (hk : 0 < fs2.length) (k : Ev d m_Mo_at 16 [o0, o1, o2] st (qk_set w b0 (.inr (11, fs2.set 0 (.int 0)))) nc ns Q) : Ev d m_Mo_at 8 [o0, o1, o2] (.ref b0 :: st) w nc ns Q := by
  refine ev_iconst 0 d_Mo_at_8 (by decide) ?_
  refine ev_goto 13 d_Mo_at_9 (by decide) ?_
  exact ev_putf d_Mo_at_13 fl_Mo_69 rfl hw1.1 hw1.2 hk (qk_fitI _) k
theorem t_Mo_at_12 {d : Nat} {st : List Value} {o0 : Option Value} {o1 : Option Value} {o2 : Option Value} {b0 : Nat} {fs2 : List Value} {w : qk_W} {nc ns : Nat} {Q : Option Value ⊕ Nat → qk_W → Nat → Nat → Prop}  (hw1 : wo w b0 11 fs2) (hk : 0 < fs2.length) (k : Ev d m_Mo_at 16 [o0, o1, o2] st (qk_set w b0 (.inr (11, fs2.set 0 (.int 1)))) nc ns Q) : Ev d m_Mo_at 12 [o0, o1, o2] (.ref b0 :: st) w nc ns Q := by
  refine ev_iconst 1 d_Mo_at_12 (by decide) ?_
  exact ev_putf d_Mo_at_13 fl_Mo_69 rfl hw1.1 hw1.2 hk (qk_fitI _) k
theorem t_Mo_at_16 {d : Nat} {st : List Value} {a0 : Nat} {o1 : Option Value} {o2 : Option Value} {fs2 : List Value} {n4 : Int32} {w : qk_W} {nc ns : Nat} {Q : Option Value ⊕ Nat → qk_W → Nat → Nat → Prop}  (hw1 : wo w a0 11 fs2) (hf3 : fs2[0]? = some (.int n4)) (kt : ¬ n4 = 0 → Ev d m_Mo_at 46 [some (.ref a0), o1, o2] st w nc ns Q) (kf : n4 = 0 → Ev d m_Mo_at 23 [some (.ref a0), o1, o2] st w nc ns Q) : Ev d m_Mo_at 16 [some (.ref a0), o1, o2] st w nc ns Q := by
  refine ev_aload_n d_Mo_at_16 rfl rfl ?_
  refine ev_getf d_Mo_at_17 fl_Mo_69 hw1.1 hw1.2 hf3 ?_
  exact ev_if_ne 46 d_Mo_at_20 (by decide) kt kf
theorem t_Mo_at_23 {d : Nat} {st : List Value} {a0 : Nat} {x1 : Int32} {x2 : Int32} {fsb : List Value} {w : qk_W} {nc ns : Nat} {Q : Option Value ⊕ Nat → qk_W → Nat → Nat → Prop}  (hb : wo w a0 11 fsb) (h8 : (st.map fun v => Value.category v).sum ≤ 8) (k : Ev d m_Mo_isHeard 0 [some (.ref a0), some (.int x1), some (.int x2)] [] w nc ns (fun r w1 nc1 ns1 => match r with | .inl v => Ev (d + 1) m_Mo_at 29 [some (.ref a0), some (.int x1), some (.int x2)] (v.toList ++ st) w1 nc1 ns1 Q | .inr x => Q (.inr x) w1 nc1 ns1)) : Ev (d + 1) m_Mo_at 23 [some (.ref a0), some (.int x1), some (.int x2)] st w nc ns Q := by
  refine ev_aload_n d_Mo_at_23 rfl rfl ?_
  refine ev_iload_n d_Mo_at_24 rfl ?_
  refine ev_iload_n d_Mo_at_25 rfl ?_
  exact ev_call (M' := m_Mo_isHeard) (As := [.ref a0, .int x1, .int x2]) (st := st) d_Mo_at_26 i_Mo_isHeard (fun h => absurd h (by decide +kernel)) cw_Mo_202 rfl rfl ⟨hb.1, 11, _, _, hb.2, rfl, rfl⟩ rfl (Nat.le_of_ble_eq_true rfl) h8 k
theorem t_Mo_at_29 {d : Nat} {st : List Value} {o0 : Option Value} {o1 : Option Value} {o2 : Option Value} {y0 : Int32} {w : qk_W} {nc ns : Nat} {Q : Option Value ⊕ Nat → qk_W → Nat → Nat → Prop}   (kt : y0 = 0 → Ev d m_Mo_at 46 [o0, o1, o2] st w nc ns Q) (kf : ¬ (y0 = 0) → Ev d m_Mo_at 32 [o0, o1, o2] st w nc ns Q) : Ev d m_Mo_at 29 [o0, o1, o2] (.int y0 :: st) w nc ns Q := by
  exact ev_if_eq 46 d_Mo_at_29 (by decide) kt kf
theorem t_Mo_at_32 {d : Nat} {a0 : Nat} {x1 : Int32} {x2 : Int32} {fs2 : List Value} {c4 : Nat} {n6 : Nat} {f7 : Nat → Int32} {w : qk_W} {nc ns : Nat} {Q : Option Value ⊕ Nat → qk_W → Nat → Nat → Prop}  (hw1 : wo w a0 11 fs2) (hf3 : fs2[18]? = some (.ref c4)) (ha5 : wi w c4 n6 f7) (hi8 : vp_in ((x1 * 32768) + x2) n6) (hq : Q (.inl (some (.int (f7 ((x1 * 32768) + x2).toNatClampNeg)))) w nc ns) : Ev d m_Mo_at 32 [some (.ref a0), some (.int x1), some (.int x2)] [] w nc ns Q := by
  refine ev_aload_n d_Mo_at_32 rfl rfl ?_
  refine ev_getf d_Mo_at_33 fl_Mo_57 hw1.1 hw1.2 hf3 ?_
  refine ev_iload_n d_Mo_at_36 rfl ?_
  refine ev_ldc 32768 d_Mo_at_37 lc_Mo_46 ?_
  refine ev_imul d_Mo_at_39 ?_
  refine ev_iload_n d_Mo_at_40 rfl ?_
  refine ev_iadd d_Mo_at_41 ?_
  refine ev_iald d_Mo_at_42 ha5 hi8 ?_
  refine ev_goto 47 d_Mo_at_43 (by decide) ?_
  exact ev_iret d_Mo_at_47 rfl rfl hq
theorem t_Mo_at_46 {d : Nat} {o0 : Option Value} {o1 : Option Value} {o2 : Option Value} {w : qk_W} {nc ns : Nat} {Q : Option Value ⊕ Nat → qk_W → Nat → Nat → Prop}   (hq : Q (.inl (some (.int 0))) w nc ns) : Ev d m_Mo_at 46 [o0, o1, o2] [] w nc ns Q := by
  refine ev_iconst 0 d_Mo_at_46 (by decide) ?_
  exact ev_iret d_Mo_at_47 rfl rfl hq
/-! Mo_qualityAt -/
theorem d_Mo_qualityAt_0 : decode m_Mo_qualityAt.2.1 0 = .ok (.aload_n 0, 1) := by decide +kernel
theorem d_Mo_qualityAt_1 : decode m_Mo_qualityAt.2.1 1 = .ok (.iload_n 1, 1) := by decide +kernel
theorem d_Mo_qualityAt_2 : decode m_Mo_qualityAt.2.1 2 = .ok (.invokestatic 101, 3) := by decide +kernel
theorem d_Mo_qualityAt_5 : decode m_Mo_qualityAt.2.1 5 = .ok (.ifCond .eq 7, 3) := by decide +kernel
theorem d_Mo_qualityAt_8 : decode m_Mo_qualityAt.2.1 8 = .ok (.iconst 0, 1) := by decide +kernel
theorem d_Mo_qualityAt_9 : decode m_Mo_qualityAt.2.1 9 = .ok (.goto 4, 3) := by decide +kernel
theorem d_Mo_qualityAt_12 : decode m_Mo_qualityAt.2.1 12 = .ok (.iconst 1, 1) := by decide +kernel
theorem d_Mo_qualityAt_13 : decode m_Mo_qualityAt.2.1 13 = .ok (.putfield 69, 3) := by decide +kernel
theorem d_Mo_qualityAt_16 : decode m_Mo_qualityAt.2.1 16 = .ok (.aload_n 0, 1) := by decide +kernel
theorem d_Mo_qualityAt_17 : decode m_Mo_qualityAt.2.1 17 = .ok (.getfield 69, 3) := by decide +kernel
theorem d_Mo_qualityAt_20 : decode m_Mo_qualityAt.2.1 20 = .ok (.ifCond .le 7, 3) := by decide +kernel
theorem d_Mo_qualityAt_23 : decode m_Mo_qualityAt.2.1 23 = .ok (.iconst 0, 1) := by decide +kernel
theorem d_Mo_qualityAt_24 : decode m_Mo_qualityAt.2.1 24 = .ok (.goto 29, 3) := by decide +kernel
theorem d_Mo_qualityAt_27 : decode m_Mo_qualityAt.2.1 27 = .ok (.aload_n 0, 1) := by decide +kernel
theorem d_Mo_qualityAt_28 : decode m_Mo_qualityAt.2.1 28 = .ok (.iload_n 1, 1) := by decide +kernel
theorem d_Mo_qualityAt_29 : decode m_Mo_qualityAt.2.1 29 = .ok (.iload_n 2, 1) := by decide +kernel
theorem d_Mo_qualityAt_30 : decode m_Mo_qualityAt.2.1 30 = .ok (.invokevirtual 202, 3) := by decide +kernel
theorem d_Mo_qualityAt_33 : decode m_Mo_qualityAt.2.1 33 = .ok (.ifCond .eq 19, 3) := by decide +kernel
theorem d_Mo_qualityAt_36 : decode m_Mo_qualityAt.2.1 36 = .ok (.aload_n 0, 1) := by decide +kernel
theorem d_Mo_qualityAt_37 : decode m_Mo_qualityAt.2.1 37 = .ok (.getfield 60, 3) := by decide +kernel
theorem d_Mo_qualityAt_40 : decode m_Mo_qualityAt.2.1 40 = .ok (.iload_n 1, 1) := by decide +kernel
theorem d_Mo_qualityAt_41 : decode m_Mo_qualityAt.2.1 41 = .ok (.ldc 46, 2) := by decide +kernel
theorem d_Mo_qualityAt_43 : decode m_Mo_qualityAt.2.1 43 = .ok (.imul, 1) := by decide +kernel
theorem d_Mo_qualityAt_44 : decode m_Mo_qualityAt.2.1 44 = .ok (.iload_n 2, 1) := by decide +kernel
theorem d_Mo_qualityAt_45 : decode m_Mo_qualityAt.2.1 45 = .ok (.iadd, 1) := by decide +kernel
theorem d_Mo_qualityAt_46 : decode m_Mo_qualityAt.2.1 46 = .ok (.baload, 1) := by decide +kernel
theorem d_Mo_qualityAt_47 : decode m_Mo_qualityAt.2.1 47 = .ok (.iconst 1, 1) := by decide +kernel
theorem d_Mo_qualityAt_48 : decode m_Mo_qualityAt.2.1 48 = .ok (.isub, 1) := by decide +kernel
theorem d_Mo_qualityAt_49 : decode m_Mo_qualityAt.2.1 49 = .ok (.goto 4, 3) := by decide +kernel
theorem d_Mo_qualityAt_52 : decode m_Mo_qualityAt.2.1 52 = .ok (.iconst (-1), 1) := by decide +kernel
theorem d_Mo_qualityAt_53 : decode m_Mo_qualityAt.2.1 53 = .ok (.ireturn, 1) := by decide +kernel
theorem t_Mo_qualityAt_0 {d : Nat} {st : List Value} {v0 : Value} {x1 : Int32} {o2 : Option Value} {w : qk_W} {nc ns : Nat} {Q : Option Value ⊕ Nat → qk_W → Nat → Nat → Prop} (hv0 : qk_isr v0 = true) (h8 : ((v0 :: st).map fun v => Value.category v).sum ≤ 8) (k : Ev d m_Mo_isChannel 0 [some (.int x1)] [] w nc ns (fun r w1 nc1 ns1 => match r with | .inl v => Ev (d + 1) m_Mo_qualityAt 5 [some v0, some (.int x1), o2] (v.toList ++ (v0 :: st)) w1 nc1 ns1 Q | .inr x => Q (.inr x) w1 nc1 ns1)) : Ev (d + 1) m_Mo_qualityAt 0 [some v0, some (.int x1), o2] st w nc ns Q := by
  refine ev_aload_n d_Mo_qualityAt_0 rfl hv0 ?_
  refine ev_iload_n d_Mo_qualityAt_1 rfl ?_
  exact ev_call (M' := m_Mo_isChannel) (As := [.int x1]) (st := (v0 :: st)) d_Mo_qualityAt_2 i_Mo_isChannel (fun h => absurd h (by decide +kernel)) cw_Mo_101 rfl rfl trivial rfl (Nat.le_of_ble_eq_true rfl) h8 k
theorem t_Mo_qualityAt_5 {d : Nat} {st : List Value} {o0 : Option Value} {o1 : Option Value} {o2 : Option Value} {y0 : Int32} {w : qk_W} {nc ns : Nat} {Q : Option Value ⊕ Nat → qk_W → Nat → Nat → Prop}   (kt : y0 = 0 → Ev d m_Mo_qualityAt 12 [o0, o1, o2] st w nc ns Q) (kf : ¬ (y0 = 0) → Ev d m_Mo_qualityAt 8 [o0, o1, o2] st w nc ns Q) : Ev d m_Mo_qualityAt 5 [o0, o1, o2] (.int y0 :: st) w nc ns Q := by
  exact ev_if_eq 12 d_Mo_qualityAt_5 (by decide) kt kf
theorem t_Mo_qualityAt_8 {d : Nat} {st : List Value} {o0 : Option Value} {o1 : Option Value} {o2 : Option Value} {b0 : Nat} {fs2 : List Value} {w : qk_W} {nc ns : Nat} {Q : Option Value ⊕ Nat → qk_W → Nat → Nat → Prop}  (hw1 : wo w b0 11 fs2) (hk : 0 < fs2.length) (k : Ev d m_Mo_qualityAt 16 [o0, o1, o2] st (qk_set w b0 (.inr (11, fs2.set 0 (.int 0)))) nc ns Q) : Ev d m_Mo_qualityAt 8 [o0, o1, o2] (.ref b0 :: st) w nc ns Q := by
  refine ev_iconst 0 d_Mo_qualityAt_8 (by decide) ?_
  refine ev_goto 13 d_Mo_qualityAt_9 (by decide) ?_
  exact ev_putf d_Mo_qualityAt_13 fl_Mo_69 rfl hw1.1 hw1.2 hk (qk_fitI _) k
theorem t_Mo_qualityAt_12 {d : Nat} {st : List Value} {o0 : Option Value} {o1 : Option Value} {o2 : Option Value} {b0 : Nat} {fs2 : List Value} {w : qk_W} {nc ns : Nat} {Q : Option Value ⊕ Nat → qk_W → Nat → Nat → Prop}  (hw1 : wo w b0 11 fs2) (hk : 0 < fs2.length) (k : Ev d m_Mo_qualityAt 16 [o0, o1, o2] st (qk_set w b0 (.inr (11, fs2.set 0 (.int 1)))) nc ns Q) : Ev d m_Mo_qualityAt 12 [o0, o1, o2] (.ref b0 :: st) w nc ns Q := by
  refine ev_iconst 1 d_Mo_qualityAt_12 (by decide) ?_
  exact ev_putf d_Mo_qualityAt_13 fl_Mo_69 rfl hw1.1 hw1.2 hk (qk_fitI _) k
theorem t_Mo_qualityAt_16 {d : Nat} {st : List Value} {a0 : Nat} {o1 : Option Value} {o2 : Option Value} {fs2 : List Value} {n4 : Int32} {w : qk_W} {nc ns : Nat} {Q : Option Value ⊕ Nat → qk_W → Nat → Nat → Prop}  (hw1 : wo w a0 11 fs2) (hf3 : fs2[0]? = some (.int n4)) (kt : n4 ≤ 0 → Ev d m_Mo_qualityAt 27 [some (.ref a0), o1, o2] st w nc ns Q) (kf : ¬ (n4 ≤ 0) → Ev d m_Mo_qualityAt 23 [some (.ref a0), o1, o2] st w nc ns Q) : Ev d m_Mo_qualityAt 16 [some (.ref a0), o1, o2] st w nc ns Q := by
  refine ev_aload_n d_Mo_qualityAt_16 rfl rfl ?_
  refine ev_getf d_Mo_qualityAt_17 fl_Mo_69 hw1.1 hw1.2 hf3 ?_
  exact ev_if_le 27 d_Mo_qualityAt_20 (by decide) kt kf
theorem t_Mo_qualityAt_23 {d : Nat} {o0 : Option Value} {o1 : Option Value} {o2 : Option Value} {w : qk_W} {nc ns : Nat} {Q : Option Value ⊕ Nat → qk_W → Nat → Nat → Prop}   (hq : Q (.inl (some (.int 0))) w nc ns) : Ev d m_Mo_qualityAt 23 [o0, o1, o2] [] w nc ns Q := by
  refine ev_iconst 0 d_Mo_qualityAt_23 (by decide) ?_
  refine ev_goto 53 d_Mo_qualityAt_24 (by decide) ?_
  exact ev_iret d_Mo_qualityAt_53 rfl rfl hq
theorem t_Mo_qualityAt_27 {d : Nat} {st : List Value} {a0 : Nat} {x1 : Int32} {x2 : Int32} {fsb : List Value} {w : qk_W} {nc ns : Nat} {Q : Option Value ⊕ Nat → qk_W → Nat → Nat → Prop}  (hb : wo w a0 11 fsb) (h8 : (st.map fun v => Value.category v).sum ≤ 8) (k : Ev d m_Mo_isHeard 0 [some (.ref a0), some (.int x1), some (.int x2)] [] w nc ns (fun r w1 nc1 ns1 => match r with | .inl v => Ev (d + 1) m_Mo_qualityAt 33 [some (.ref a0), some (.int x1), some (.int x2)] (v.toList ++ st) w1 nc1 ns1 Q | .inr x => Q (.inr x) w1 nc1 ns1)) : Ev (d + 1) m_Mo_qualityAt 27 [some (.ref a0), some (.int x1), some (.int x2)] st w nc ns Q := by
  refine ev_aload_n d_Mo_qualityAt_27 rfl rfl ?_
  refine ev_iload_n d_Mo_qualityAt_28 rfl ?_
  refine ev_iload_n d_Mo_qualityAt_29 rfl ?_
  exact ev_call (M' := m_Mo_isHeard) (As := [.ref a0, .int x1, .int x2]) (st := st) d_Mo_qualityAt_30 i_Mo_isHeard (fun h => absurd h (by decide +kernel)) cw_Mo_202 rfl rfl ⟨hb.1, 11, _, _, hb.2, rfl, rfl⟩ rfl (Nat.le_of_ble_eq_true rfl) h8 k
theorem t_Mo_qualityAt_33 {d : Nat} {st : List Value} {o0 : Option Value} {o1 : Option Value} {o2 : Option Value} {y0 : Int32} {w : qk_W} {nc ns : Nat} {Q : Option Value ⊕ Nat → qk_W → Nat → Nat → Prop}   (kt : y0 = 0 → Ev d m_Mo_qualityAt 52 [o0, o1, o2] st w nc ns Q) (kf : ¬ (y0 = 0) → Ev d m_Mo_qualityAt 36 [o0, o1, o2] st w nc ns Q) : Ev d m_Mo_qualityAt 33 [o0, o1, o2] (.int y0 :: st) w nc ns Q := by
  exact ev_if_eq 52 d_Mo_qualityAt_33 (by decide) kt kf
theorem t_Mo_qualityAt_36 {d : Nat} {a0 : Nat} {x1 : Int32} {x2 : Int32} {fs2 : List Value} {c4 : Nat} {n6 : Nat} {f7 : Nat → Int32} {w : qk_W} {nc ns : Nat} {Q : Option Value ⊕ Nat → qk_W → Nat → Nat → Prop}  (hw1 : wo w a0 11 fs2) (hf3 : fs2[19]? = some (.ref c4)) (ha5 : wb w c4 n6 f7) (hi8 : vp_in ((x1 * 32768) + x2) n6) (hq : Q (.inl (some (.int ((f7 ((x1 * 32768) + x2).toNatClampNeg) - 1)))) w nc ns) : Ev d m_Mo_qualityAt 36 [some (.ref a0), some (.int x1), some (.int x2)] [] w nc ns Q := by
  refine ev_aload_n d_Mo_qualityAt_36 rfl rfl ?_
  refine ev_getf d_Mo_qualityAt_37 fl_Mo_60 hw1.1 hw1.2 hf3 ?_
  refine ev_iload_n d_Mo_qualityAt_40 rfl ?_
  refine ev_ldc 32768 d_Mo_qualityAt_41 lc_Mo_46 ?_
  refine ev_imul d_Mo_qualityAt_43 ?_
  refine ev_iload_n d_Mo_qualityAt_44 rfl ?_
  refine ev_iadd d_Mo_qualityAt_45 ?_
  refine ev_bald d_Mo_qualityAt_46 ha5.1 ha5.2 hi8 ?_
  refine ev_iconst 1 d_Mo_qualityAt_47 (by decide) ?_
  refine ev_isub d_Mo_qualityAt_48 ?_
  refine ev_goto 53 d_Mo_qualityAt_49 (by decide) ?_
  exact ev_iret d_Mo_qualityAt_53 rfl rfl hq
theorem t_Mo_qualityAt_52 {d : Nat} {o0 : Option Value} {o1 : Option Value} {o2 : Option Value} {w : qk_W} {nc ns : Nat} {Q : Option Value ⊕ Nat → qk_W → Nat → Nat → Prop}   (hq : Q (.inl (some (.int (-1)))) w nc ns) : Ev d m_Mo_qualityAt 52 [o0, o1, o2] [] w nc ns Q := by
  refine ev_iconst (-1) d_Mo_qualityAt_52 (by decide) ?_
  exact ev_iret d_Mo_qualityAt_53 rfl rfl hq
/-! Mo_gaps -/
theorem cw_Mo_211 : qk_cw "QuakeLinkModel" m_Mo_isGap.1 (.invokevirtual 211) := ⟨(lw_i5 _ (List.mem_of_getElem? (i := 208) rfl)), (lw_i5 _ (List.mem_of_getElem? (i := 210) rfl)), (lw_i0 _ (List.mem_of_getElem? (i := 43) rfl))⟩
theorem fl_Mo_208 : qk_fl "QuakeLinkModel" 208 11 33 := ⟨_, rfl, by decide, rfl, (lw_i4 _ (List.mem_of_getElem? (i := 209) rfl))⟩
theorem d_Mo_gaps_0 : decode m_Mo_gaps.2.1 0 = .ok (.aload_n 0, 1) := by decide +kernel
theorem d_Mo_gaps_1 : decode m_Mo_gaps.2.1 1 = .ok (.iload_n 1, 1) := by decide +kernel
theorem d_Mo_gaps_2 : decode m_Mo_gaps.2.1 2 = .ok (.invokestatic 101, 3) := by decide +kernel
theorem d_Mo_gaps_5 : decode m_Mo_gaps.2.1 5 = .ok (.ifCond .eq 7, 3) := by decide +kernel
theorem d_Mo_gaps_8 : decode m_Mo_gaps.2.1 8 = .ok (.iconst 0, 1) := by decide +kernel
theorem d_Mo_gaps_9 : decode m_Mo_gaps.2.1 9 = .ok (.goto 4, 3) := by decide +kernel
theorem d_Mo_gaps_12 : decode m_Mo_gaps.2.1 12 = .ok (.iconst 1, 1) := by decide +kernel
theorem d_Mo_gaps_13 : decode m_Mo_gaps.2.1 13 = .ok (.putfield 69, 3) := by decide +kernel
theorem d_Mo_gaps_16 : decode m_Mo_gaps.2.1 16 = .ok (.aload_n 0, 1) := by decide +kernel
theorem d_Mo_gaps_17 : decode m_Mo_gaps.2.1 17 = .ok (.getfield 69, 3) := by decide +kernel
theorem d_Mo_gaps_20 : decode m_Mo_gaps.2.1 20 = .ok (.ifCond .le 5, 3) := by decide +kernel
theorem d_Mo_gaps_23 : decode m_Mo_gaps.2.1 23 = .ok (.iconst 0, 1) := by decide +kernel
theorem d_Mo_gaps_24 : decode m_Mo_gaps.2.1 24 = .ok (.ireturn, 1) := by decide +kernel
theorem d_Mo_gaps_25 : decode m_Mo_gaps.2.1 25 = .ok (.iconst 0, 1) := by decide +kernel
theorem d_Mo_gaps_26 : decode m_Mo_gaps.2.1 26 = .ok (.istore_n 2, 1) := by decide +kernel
theorem d_Mo_gaps_27 : decode m_Mo_gaps.2.1 27 = .ok (.aload_n 0, 1) := by decide +kernel
theorem d_Mo_gaps_28 : decode m_Mo_gaps.2.1 28 = .ok (.iload_n 1, 1) := by decide +kernel
theorem d_Mo_gaps_29 : decode m_Mo_gaps.2.1 29 = .ok (.iconst 0, 1) := by decide +kernel
theorem d_Mo_gaps_30 : decode m_Mo_gaps.2.1 30 = .ok (.invokevirtual 211, 3) := by decide +kernel
theorem d_Mo_gaps_33 : decode m_Mo_gaps.2.1 33 = .ok (.istore_n 3, 1) := by decide +kernel
theorem d_Mo_gaps_34 : decode m_Mo_gaps.2.1 34 = .ok (.iload_n 3, 1) := by decide +kernel
theorem d_Mo_gaps_35 : decode m_Mo_gaps.2.1 35 = .ok (.ifCond .eq 21, 3) := by decide +kernel
theorem d_Mo_gaps_38 : decode m_Mo_gaps.2.1 38 = .ok (.iinc 2 1, 3) := by decide +kernel
theorem d_Mo_gaps_41 : decode m_Mo_gaps.2.1 41 = .ok (.aload_n 0, 1) := by decide +kernel
theorem d_Mo_gaps_42 : decode m_Mo_gaps.2.1 42 = .ok (.iload_n 1, 1) := by decide +kernel
theorem d_Mo_gaps_43 : decode m_Mo_gaps.2.1 43 = .ok (.aload_n 0, 1) := by decide +kernel
theorem d_Mo_gaps_44 : decode m_Mo_gaps.2.1 44 = .ok (.getfield 208, 3) := by decide +kernel
theorem d_Mo_gaps_47 : decode m_Mo_gaps.2.1 47 = .ok (.iconst 1, 1) := by decide +kernel
theorem d_Mo_gaps_48 : decode m_Mo_gaps.2.1 48 = .ok (.iadd, 1) := by decide +kernel
theorem d_Mo_gaps_49 : decode m_Mo_gaps.2.1 49 = .ok (.invokevirtual 211, 3) := by decide +kernel
theorem d_Mo_gaps_52 : decode m_Mo_gaps.2.1 52 = .ok (.istore_n 3, 1) := by decide +kernel
theorem d_Mo_gaps_53 : decode m_Mo_gaps.2.1 53 = .ok (.goto (-19), 3) := by decide +kernel
theorem d_Mo_gaps_56 : decode m_Mo_gaps.2.1 56 = .ok (.iload_n 2, 1) := by decide +kernel
theorem d_Mo_gaps_57 : decode m_Mo_gaps.2.1 57 = .ok (.ireturn, 1) := by decide +kernel
theorem t_Mo_gaps_0 {d : Nat} {st : List Value} {v0 : Value} {x1 : Int32} {o2 : Option Value} {o3 : Option Value} {w : qk_W} {nc ns : Nat} {Q : Option Value ⊕ Nat → qk_W → Nat → Nat → Prop} (hv0 : qk_isr v0 = true) (h8 : ((v0 :: st).map fun v => Value.category v).sum ≤ 8) (k : Ev d m_Mo_isChannel 0 [some (.int x1)] [] w nc ns (fun r w1 nc1 ns1 => match r with | .inl v => Ev (d + 1) m_Mo_gaps 5 [some v0, some (.int x1), o2, o3] (v.toList ++ (v0 :: st)) w1 nc1 ns1 Q | .inr x => Q (.inr x) w1 nc1 ns1)) : Ev (d + 1) m_Mo_gaps 0 [some v0, some (.int x1), o2, o3] st w nc ns Q := by
  refine ev_aload_n d_Mo_gaps_0 rfl hv0 ?_
  refine ev_iload_n d_Mo_gaps_1 rfl ?_
  exact ev_call (M' := m_Mo_isChannel) (As := [.int x1]) (st := (v0 :: st)) d_Mo_gaps_2 i_Mo_isChannel (fun h => absurd h (by decide +kernel)) cw_Mo_101 rfl rfl trivial rfl (Nat.le_of_ble_eq_true rfl) h8 k
theorem t_Mo_gaps_5 {d : Nat} {st : List Value} {o0 : Option Value} {o1 : Option Value} {o2 : Option Value} {o3 : Option Value} {y0 : Int32} {w : qk_W} {nc ns : Nat} {Q : Option Value ⊕ Nat → qk_W → Nat → Nat → Prop}   (kt : y0 = 0 → Ev d m_Mo_gaps 12 [o0, o1, o2, o3] st w nc ns Q) (kf : ¬ (y0 = 0) → Ev d m_Mo_gaps 8 [o0, o1, o2, o3] st w nc ns Q) : Ev d m_Mo_gaps 5 [o0, o1, o2, o3] (.int y0 :: st) w nc ns Q := by
  exact ev_if_eq 12 d_Mo_gaps_5 (by decide) kt kf
theorem t_Mo_gaps_8 {d : Nat} {st : List Value} {o0 : Option Value} {o1 : Option Value} {o2 : Option Value} {o3 : Option Value} {b0 : Nat} {fs2 : List Value} {w : qk_W} {nc ns : Nat} {Q : Option Value ⊕ Nat → qk_W → Nat → Nat → Prop}  (hw1 : wo w b0 11 fs2) (hk : 0 < fs2.length) (k : Ev d m_Mo_gaps 16 [o0, o1, o2, o3] st (qk_set w b0 (.inr (11, fs2.set 0 (.int 0)))) nc ns Q) : Ev d m_Mo_gaps 8 [o0, o1, o2, o3] (.ref b0 :: st) w nc ns Q := by
  refine ev_iconst 0 d_Mo_gaps_8 (by decide) ?_
  refine ev_goto 13 d_Mo_gaps_9 (by decide) ?_
  exact ev_putf d_Mo_gaps_13 fl_Mo_69 rfl hw1.1 hw1.2 hk (qk_fitI _) k
theorem t_Mo_gaps_12 {d : Nat} {st : List Value} {o0 : Option Value} {o1 : Option Value} {o2 : Option Value} {o3 : Option Value} {b0 : Nat} {fs2 : List Value} {w : qk_W} {nc ns : Nat} {Q : Option Value ⊕ Nat → qk_W → Nat → Nat → Prop}  (hw1 : wo w b0 11 fs2) (hk : 0 < fs2.length) (k : Ev d m_Mo_gaps 16 [o0, o1, o2, o3] st (qk_set w b0 (.inr (11, fs2.set 0 (.int 1)))) nc ns Q) : Ev d m_Mo_gaps 12 [o0, o1, o2, o3] (.ref b0 :: st) w nc ns Q := by
  refine ev_iconst 1 d_Mo_gaps_12 (by decide) ?_
  exact ev_putf d_Mo_gaps_13 fl_Mo_69 rfl hw1.1 hw1.2 hk (qk_fitI _) k
theorem t_Mo_gaps_16 {d : Nat} {st : List Value} {a0 : Nat} {o1 : Option Value} {o2 : Option Value} {o3 : Option Value} {fs2 : List Value} {n4 : Int32} {w : qk_W} {nc ns : Nat} {Q : Option Value ⊕ Nat → qk_W → Nat → Nat → Prop}  (hw1 : wo w a0 11 fs2) (hf3 : fs2[0]? = some (.int n4)) (kt : n4 ≤ 0 → Ev d m_Mo_gaps 25 [some (.ref a0), o1, o2, o3] st w nc ns Q) (kf : ¬ (n4 ≤ 0) → Ev d m_Mo_gaps 23 [some (.ref a0), o1, o2, o3] st w nc ns Q) : Ev d m_Mo_gaps 16 [some (.ref a0), o1, o2, o3] st w nc ns Q := by
  refine ev_aload_n d_Mo_gaps_16 rfl rfl ?_
  refine ev_getf d_Mo_gaps_17 fl_Mo_69 hw1.1 hw1.2 hf3 ?_
  exact ev_if_le 25 d_Mo_gaps_20 (by decide) kt kf
theorem t_Mo_gaps_23 {d : Nat} {o0 : Option Value} {o1 : Option Value} {o2 : Option Value} {o3 : Option Value} {w : qk_W} {nc ns : Nat} {Q : Option Value ⊕ Nat → qk_W → Nat → Nat → Prop}   (hq : Q (.inl (some (.int 0))) w nc ns) : Ev d m_Mo_gaps 23 [o0, o1, o2, o3] [] w nc ns Q := by
  refine ev_iconst 0 d_Mo_gaps_23 (by decide) ?_
  exact ev_iret d_Mo_gaps_24 rfl rfl hq
theorem t_Mo_gaps_25 {d : Nat} {st : List Value} {a0 : Nat} {x1 : Int32} {o2 : Option Value} {o3 : Option Value} {fsb : List Value} {w : qk_W} {nc ns : Nat} {Q : Option Value ⊕ Nat → qk_W → Nat → Nat → Prop}  (hc1 : qk_c2 [some (.ref a0), some (.int x1), o2, o3] 2 = true) (hb : wo w a0 11 fsb) (h8 : (st.map fun v => Value.category v).sum ≤ 8) (k : Ev d m_Mo_isGap 0 [some (.ref a0), some (.int x1), some (.int 0), none, none] [] w nc ns (fun r w1 nc1 ns1 => match r with | .inl v => Ev (d + 1) m_Mo_gaps 33 [some (.ref a0), some (.int x1), some (.int 0), o3] (v.toList ++ st) w1 nc1 ns1 Q | .inr x => Q (.inr x) w1 nc1 ns1)) : Ev (d + 1) m_Mo_gaps 25 [some (.ref a0), some (.int x1), o2, o3] st w nc ns Q := by
  refine ev_iconst 0 d_Mo_gaps_25 (by decide) ?_
  refine ev_istore_n d_Mo_gaps_26 (by decide) hc1 ?_
  refine ev_aload_n d_Mo_gaps_27 rfl rfl ?_
  refine ev_iload_n d_Mo_gaps_28 rfl ?_
  refine ev_iconst 0 d_Mo_gaps_29 (by decide) ?_
  exact ev_call (M' := m_Mo_isGap) (As := [.ref a0, .int x1, .int 0]) (st := st) d_Mo_gaps_30 i_Mo_isGap (fun h => absurd h (by decide +kernel)) cw_Mo_211 rfl rfl ⟨hb.1, 11, _, _, hb.2, rfl, rfl⟩ rfl (Nat.le_of_ble_eq_true rfl) h8 k
theorem t_Mo_gaps_33 {d : Nat} {st : List Value} {o0 : Option Value} {o1 : Option Value} {o2 : Option Value} {o3 : Option Value} {y0 : Int32} {w : qk_W} {nc ns : Nat} {Q : Option Value ⊕ Nat → qk_W → Nat → Nat → Prop}  (hc1 : qk_c2 [o0, o1, o2, o3] 3 = true) (k : Ev d m_Mo_gaps 34 [o0, o1, o2, some (.int y0)] st w nc ns Q) : Ev d m_Mo_gaps 33 [o0, o1, o2, o3] (.int y0 :: st) w nc ns Q := by
  refine ev_istore_n d_Mo_gaps_33 (by decide) hc1 ?_
  exact k
theorem t_Mo_gaps_34 {d : Nat} {st : List Value} {o0 : Option Value} {o1 : Option Value} {o2 : Option Value} {x3 : Int32} {w : qk_W} {nc ns : Nat} {Q : Option Value ⊕ Nat → qk_W → Nat → Nat → Prop}   (kt : x3 = 0 → Ev d m_Mo_gaps 56 [o0, o1, o2, some (.int x3)] st w nc ns Q) (kf : ¬ (x3 = 0) → Ev d m_Mo_gaps 38 [o0, o1, o2, some (.int x3)] st w nc ns Q) : Ev d m_Mo_gaps 34 [o0, o1, o2, some (.int x3)] st w nc ns Q := by
  refine ev_iload_n d_Mo_gaps_34 rfl ?_
  exact ev_if_eq 56 d_Mo_gaps_35 (by decide) kt kf
theorem t_Mo_gaps_38 {d : Nat} {st : List Value} {a0 : Nat} {x1 : Int32} {x2 : Int32} {o3 : Option Value} {fs3 : List Value} {n5 : Int32} {w : qk_W} {nc ns : Nat} {Q : Option Value ⊕ Nat → qk_W → Nat → Nat → Prop}  (hc1 : qk_c2 [some (.ref a0), some (.int x1), some (.int x2), o3] 2 = true) (hw2 : wo w a0 11 fs3) (hf4 : fs3[33]? = some (.int n5)) (h8 : (st.map fun v => Value.category v).sum ≤ 8) (k : Ev d m_Mo_isGap 0 [some (.ref a0), some (.int x1), some (.int (n5 + 1)), none, none] [] w nc ns (fun r w1 nc1 ns1 => match r with | .inl v => Ev (d + 1) m_Mo_gaps 52 [some (.ref a0), some (.int x1), some (.int (x2 + 1)), o3] (v.toList ++ st) w1 nc1 ns1 Q | .inr x => Q (.inr x) w1 nc1 ns1)) : Ev (d + 1) m_Mo_gaps 38 [some (.ref a0), some (.int x1), some (.int x2), o3] st w nc ns Q := by
  refine ev_iinc 1 d_Mo_gaps_38 (by decide) rfl (by decide) hc1 ?_
  refine ev_aload_n d_Mo_gaps_41 rfl rfl ?_
  refine ev_iload_n d_Mo_gaps_42 rfl ?_
  refine ev_aload_n d_Mo_gaps_43 rfl rfl ?_
  refine ev_getf d_Mo_gaps_44 fl_Mo_208 hw2.1 hw2.2 hf4 ?_
  refine ev_iconst 1 d_Mo_gaps_47 (by decide) ?_
  refine ev_iadd d_Mo_gaps_48 ?_
  exact ev_call (M' := m_Mo_isGap) (As := [.ref a0, .int x1, .int (n5 + 1)]) (st := st) d_Mo_gaps_49 i_Mo_isGap (fun h => absurd h (by decide +kernel)) cw_Mo_211 rfl rfl ⟨hw2.1, 11, _, _, hw2.2, rfl, rfl⟩ rfl (Nat.le_of_ble_eq_true rfl) h8 k
theorem t_Mo_gaps_52 {d : Nat} {st : List Value} {o0 : Option Value} {o1 : Option Value} {o2 : Option Value} {o3 : Option Value} {y0 : Int32} {w : qk_W} {nc ns : Nat} {Q : Option Value ⊕ Nat → qk_W → Nat → Nat → Prop}  (hc1 : qk_c2 [o0, o1, o2, o3] 3 = true) (k : Ev d m_Mo_gaps 34 [o0, o1, o2, some (.int y0)] st w nc ns Q) : Ev d m_Mo_gaps 52 [o0, o1, o2, o3] (.int y0 :: st) w nc ns Q := by
  refine ev_istore_n d_Mo_gaps_52 (by decide) hc1 ?_
  refine ev_goto 34 d_Mo_gaps_53 (by decide) ?_
  exact k
theorem t_Mo_gaps_56 {d : Nat} {o0 : Option Value} {o1 : Option Value} {x2 : Int32} {o3 : Option Value} {w : qk_W} {nc ns : Nat} {Q : Option Value ⊕ Nat → qk_W → Nat → Nat → Prop}   (hq : Q (.inl (some (.int x2))) w nc ns) : Ev d m_Mo_gaps 56 [o0, o1, some (.int x2), o3] [] w nc ns Q := by
  refine ev_iload_n d_Mo_gaps_56 rfl ?_
  exact ev_iret d_Mo_gaps_57 rfl rfl hq
/-! Mo_isGap -/
theorem fl_Mo_205 : qk_fl "QuakeLinkModel" 205 11 32 := ⟨_, rfl, by decide, rfl, (lw_i4 _ (List.mem_of_getElem? (i := 208) rfl))⟩
theorem d_Mo_isGap_0 : decode m_Mo_isGap.2.1 0 = .ok (.sipush 32767, 3) := by decide +kernel
theorem d_Mo_isGap_3 : decode m_Mo_isGap.2.1 3 = .ok (.istore_n 3, 1) := by decide +kernel
theorem d_Mo_isGap_4 : decode m_Mo_isGap.2.1 4 = .ok (.iload_n 3, 1) := by decide +kernel
theorem d_Mo_isGap_5 : decode m_Mo_isGap.2.1 5 = .ok (.ifCond .lt 18, 3) := by decide +kernel
theorem d_Mo_isGap_8 : decode m_Mo_isGap.2.1 8 = .ok (.aload_n 0, 1) := by decide +kernel
theorem d_Mo_isGap_9 : decode m_Mo_isGap.2.1 9 = .ok (.iload_n 1, 1) := by decide +kernel
theorem d_Mo_isGap_10 : decode m_Mo_isGap.2.1 10 = .ok (.iload_n 3, 1) := by decide +kernel
theorem d_Mo_isGap_11 : decode m_Mo_isGap.2.1 11 = .ok (.invokevirtual 202, 3) := by decide +kernel
theorem d_Mo_isGap_14 : decode m_Mo_isGap.2.1 14 = .ok (.ifCond .ne 9, 3) := by decide +kernel
theorem d_Mo_isGap_17 : decode m_Mo_isGap.2.1 17 = .ok (.iinc 3 (-1), 3) := by decide +kernel
theorem d_Mo_isGap_20 : decode m_Mo_isGap.2.1 20 = .ok (.goto (-16), 3) := by decide +kernel
theorem d_Mo_isGap_23 : decode m_Mo_isGap.2.1 23 = .ok (.iconst 0, 1) := by decide +kernel
theorem d_Mo_isGap_24 : decode m_Mo_isGap.2.1 24 = .ok (.istore 4, 2) := by decide +kernel
theorem d_Mo_isGap_26 : decode m_Mo_isGap.2.1 26 = .ok (.iload 4, 2) := by decide +kernel
theorem d_Mo_isGap_28 : decode m_Mo_isGap.2.1 28 = .ok (.ldc 46, 2) := by decide +kernel
theorem d_Mo_isGap_30 : decode m_Mo_isGap.2.1 30 = .ok (.if_icmp .ge 19, 3) := by decide +kernel
theorem d_Mo_isGap_33 : decode m_Mo_isGap.2.1 33 = .ok (.aload_n 0, 1) := by decide +kernel
theorem d_Mo_isGap_34 : decode m_Mo_isGap.2.1 34 = .ok (.iload_n 1, 1) := by decide +kernel
theorem d_Mo_isGap_35 : decode m_Mo_isGap.2.1 35 = .ok (.iload 4, 2) := by decide +kernel
theorem d_Mo_isGap_37 : decode m_Mo_isGap.2.1 37 = .ok (.invokevirtual 202, 3) := by decide +kernel
theorem d_Mo_isGap_40 : decode m_Mo_isGap.2.1 40 = .ok (.ifCond .ne 9, 3) := by decide +kernel
theorem d_Mo_isGap_43 : decode m_Mo_isGap.2.1 43 = .ok (.iinc 4 1, 3) := by decide +kernel
theorem d_Mo_isGap_46 : decode m_Mo_isGap.2.1 46 = .ok (.goto (-20), 3) := by decide +kernel
theorem d_Mo_isGap_49 : decode m_Mo_isGap.2.1 49 = .ok (.aload_n 0, 1) := by decide +kernel
theorem d_Mo_isGap_50 : decode m_Mo_isGap.2.1 50 = .ok (.iload_n 2, 1) := by decide +kernel
theorem d_Mo_isGap_51 : decode m_Mo_isGap.2.1 51 = .ok (.iload 4, 2) := by decide +kernel
theorem d_Mo_isGap_53 : decode m_Mo_isGap.2.1 53 = .ok (.if_icmp .le 7, 3) := by decide +kernel
theorem d_Mo_isGap_56 : decode m_Mo_isGap.2.1 56 = .ok (.iload_n 2, 1) := by decide +kernel
theorem d_Mo_isGap_57 : decode m_Mo_isGap.2.1 57 = .ok (.goto 5, 3) := by decide +kernel
theorem d_Mo_isGap_60 : decode m_Mo_isGap.2.1 60 = .ok (.iload 4, 2) := by decide +kernel
theorem d_Mo_isGap_62 : decode m_Mo_isGap.2.1 62 = .ok (.putfield 205, 3) := by decide +kernel
theorem d_Mo_isGap_65 : decode m_Mo_isGap.2.1 65 = .ok (.aload_n 0, 1) := by decide +kernel
theorem d_Mo_isGap_66 : decode m_Mo_isGap.2.1 66 = .ok (.getfield 205, 3) := by decide +kernel
theorem d_Mo_isGap_69 : decode m_Mo_isGap.2.1 69 = .ok (.iload_n 3, 1) := by decide +kernel
theorem d_Mo_isGap_70 : decode m_Mo_isGap.2.1 70 = .ok (.if_icmp .gt 28, 3) := by decide +kernel
theorem d_Mo_isGap_73 : decode m_Mo_isGap.2.1 73 = .ok (.aload_n 0, 1) := by decide +kernel
theorem d_Mo_isGap_74 : decode m_Mo_isGap.2.1 74 = .ok (.iload_n 1, 1) := by decide +kernel
theorem d_Mo_isGap_75 : decode m_Mo_isGap.2.1 75 = .ok (.aload_n 0, 1) := by decide +kernel
theorem d_Mo_isGap_76 : decode m_Mo_isGap.2.1 76 = .ok (.getfield 205, 3) := by decide +kernel
theorem d_Mo_isGap_79 : decode m_Mo_isGap.2.1 79 = .ok (.invokevirtual 202, 3) := by decide +kernel
theorem d_Mo_isGap_82 : decode m_Mo_isGap.2.1 82 = .ok (.ifCond .eq 16, 3) := by decide +kernel
theorem d_Mo_isGap_85 : decode m_Mo_isGap.2.1 85 = .ok (.aload_n 0, 1) := by decide +kernel
theorem d_Mo_isGap_86 : decode m_Mo_isGap.2.1 86 = .ok (.dup, 1) := by decide +kernel
theorem d_Mo_isGap_87 : decode m_Mo_isGap.2.1 87 = .ok (.getfield 205, 3) := by decide +kernel
theorem d_Mo_isGap_90 : decode m_Mo_isGap.2.1 90 = .ok (.iconst 1, 1) := by decide +kernel
theorem d_Mo_isGap_91 : decode m_Mo_isGap.2.1 91 = .ok (.iadd, 1) := by decide +kernel
theorem d_Mo_isGap_92 : decode m_Mo_isGap.2.1 92 = .ok (.putfield 205, 3) := by decide +kernel
theorem d_Mo_isGap_95 : decode m_Mo_isGap.2.1 95 = .ok (.goto (-30), 3) := by decide +kernel
theorem d_Mo_isGap_98 : decode m_Mo_isGap.2.1 98 = .ok (.aload_n 0, 1) := by decide +kernel
theorem d_Mo_isGap_99 : decode m_Mo_isGap.2.1 99 = .ok (.getfield 205, 3) := by decide +kernel
theorem d_Mo_isGap_102 : decode m_Mo_isGap.2.1 102 = .ok (.iload_n 3, 1) := by decide +kernel
theorem d_Mo_isGap_103 : decode m_Mo_isGap.2.1 103 = .ok (.if_icmp .le 5, 3) := by decide +kernel
theorem d_Mo_isGap_106 : decode m_Mo_isGap.2.1 106 = .ok (.iconst 0, 1) := by decide +kernel
theorem d_Mo_isGap_107 : decode m_Mo_isGap.2.1 107 = .ok (.ireturn, 1) := by decide +kernel
theorem d_Mo_isGap_108 : decode m_Mo_isGap.2.1 108 = .ok (.aload_n 0, 1) := by decide +kernel
theorem d_Mo_isGap_109 : decode m_Mo_isGap.2.1 109 = .ok (.aload_n 0, 1) := by decide +kernel
theorem d_Mo_isGap_110 : decode m_Mo_isGap.2.1 110 = .ok (.getfield 205, 3) := by decide +kernel
theorem d_Mo_isGap_113 : decode m_Mo_isGap.2.1 113 = .ok (.putfield 208, 3) := by decide +kernel
theorem d_Mo_isGap_116 : decode m_Mo_isGap.2.1 116 = .ok (.aload_n 0, 1) := by decide +kernel
theorem d_Mo_isGap_117 : decode m_Mo_isGap.2.1 117 = .ok (.iload_n 1, 1) := by decide +kernel
theorem d_Mo_isGap_118 : decode m_Mo_isGap.2.1 118 = .ok (.aload_n 0, 1) := by decide +kernel
theorem d_Mo_isGap_119 : decode m_Mo_isGap.2.1 119 = .ok (.getfield 208, 3) := by decide +kernel
theorem d_Mo_isGap_122 : decode m_Mo_isGap.2.1 122 = .ok (.iconst 1, 1) := by decide +kernel
theorem d_Mo_isGap_123 : decode m_Mo_isGap.2.1 123 = .ok (.iadd, 1) := by decide +kernel
theorem d_Mo_isGap_124 : decode m_Mo_isGap.2.1 124 = .ok (.invokevirtual 202, 3) := by decide +kernel
theorem d_Mo_isGap_127 : decode m_Mo_isGap.2.1 127 = .ok (.ifCond .ne 16, 3) := by decide +kernel
theorem d_Mo_isGap_130 : decode m_Mo_isGap.2.1 130 = .ok (.aload_n 0, 1) := by decide +kernel
theorem d_Mo_isGap_131 : decode m_Mo_isGap.2.1 131 = .ok (.dup, 1) := by decide +kernel
theorem d_Mo_isGap_132 : decode m_Mo_isGap.2.1 132 = .ok (.getfield 208, 3) := by decide +kernel
theorem d_Mo_isGap_135 : decode m_Mo_isGap.2.1 135 = .ok (.iconst 1, 1) := by decide +kernel
theorem d_Mo_isGap_136 : decode m_Mo_isGap.2.1 136 = .ok (.iadd, 1) := by decide +kernel
theorem d_Mo_isGap_137 : decode m_Mo_isGap.2.1 137 = .ok (.putfield 208, 3) := by decide +kernel
theorem d_Mo_isGap_140 : decode m_Mo_isGap.2.1 140 = .ok (.goto (-24), 3) := by decide +kernel
theorem d_Mo_isGap_143 : decode m_Mo_isGap.2.1 143 = .ok (.iconst 1, 1) := by decide +kernel
theorem d_Mo_isGap_144 : decode m_Mo_isGap.2.1 144 = .ok (.ireturn, 1) := by decide +kernel
theorem t_Mo_isGap_0 {d : Nat} {st : List Value} {o0 : Option Value} {o1 : Option Value} {o2 : Option Value} {o3 : Option Value} {o4 : Option Value} {w : qk_W} {nc ns : Nat} {Q : Option Value ⊕ Nat → qk_W → Nat → Nat → Prop}  (hc1 : qk_c2 [o0, o1, o2, o3, o4] 3 = true) (k : Ev d m_Mo_isGap 4 [o0, o1, o2, some (.int 32767), o4] st w nc ns Q) : Ev d m_Mo_isGap 0 [o0, o1, o2, o3, o4] st w nc ns Q := by
  refine ev_sipush 32767 d_Mo_isGap_0 (by decide) ?_
  refine ev_istore_n d_Mo_isGap_3 (by decide) hc1 ?_
  exact k
theorem t_Mo_isGap_4 {d : Nat} {st : List Value} {o0 : Option Value} {o1 : Option Value} {o2 : Option Value} {x3 : Int32} {o4 : Option Value} {w : qk_W} {nc ns : Nat} {Q : Option Value ⊕ Nat → qk_W → Nat → Nat → Prop}   (kt : x3 < 0 → Ev d m_Mo_isGap 23 [o0, o1, o2, some (.int x3), o4] st w nc ns Q) (kf : ¬ (x3 < 0) → Ev d m_Mo_isGap 8 [o0, o1, o2, some (.int x3), o4] st w nc ns Q) : Ev d m_Mo_isGap 4 [o0, o1, o2, some (.int x3), o4] st w nc ns Q := by
  refine ev_iload_n d_Mo_isGap_4 rfl ?_
  exact ev_if_lt 23 d_Mo_isGap_5 (by decide) kt kf
theorem t_Mo_isGap_8 {d : Nat} {st : List Value} {a0 : Nat} {x1 : Int32} {o2 : Option Value} {x3 : Int32} {o4 : Option Value} {fsb : List Value} {w : qk_W} {nc ns : Nat} {Q : Option Value ⊕ Nat → qk_W → Nat → Nat → Prop}  (hb : wo w a0 11 fsb) (h8 : (st.map fun v => Value.category v).sum ≤ 8) (k : Ev d m_Mo_isHeard 0 [some (.ref a0), some (.int x1), some (.int x3)] [] w nc ns (fun r w1 nc1 ns1 => match r with | .inl v => Ev (d + 1) m_Mo_isGap 14 [some (.ref a0), some (.int x1), o2, some (.int x3), o4] (v.toList ++ st) w1 nc1 ns1 Q | .inr x => Q (.inr x) w1 nc1 ns1)) : Ev (d + 1) m_Mo_isGap 8 [some (.ref a0), some (.int x1), o2, some (.int x3), o4] st w nc ns Q := by
  refine ev_aload_n d_Mo_isGap_8 rfl rfl ?_
  refine ev_iload_n d_Mo_isGap_9 rfl ?_
  refine ev_iload_n d_Mo_isGap_10 rfl ?_
  exact ev_call (M' := m_Mo_isHeard) (As := [.ref a0, .int x1, .int x3]) (st := st) d_Mo_isGap_11 i_Mo_isHeard (fun h => absurd h (by decide +kernel)) cw_Mo_202 rfl rfl ⟨hb.1, 11, _, _, hb.2, rfl, rfl⟩ rfl (Nat.le_of_ble_eq_true rfl) h8 k
theorem t_Mo_isGap_14 {d : Nat} {st : List Value} {o0 : Option Value} {o1 : Option Value} {o2 : Option Value} {o3 : Option Value} {o4 : Option Value} {y0 : Int32} {w : qk_W} {nc ns : Nat} {Q : Option Value ⊕ Nat → qk_W → Nat → Nat → Prop}   (kt : ¬ y0 = 0 → Ev d m_Mo_isGap 23 [o0, o1, o2, o3, o4] st w nc ns Q) (kf : y0 = 0 → Ev d m_Mo_isGap 17 [o0, o1, o2, o3, o4] st w nc ns Q) : Ev d m_Mo_isGap 14 [o0, o1, o2, o3, o4] (.int y0 :: st) w nc ns Q := by
  exact ev_if_ne 23 d_Mo_isGap_14 (by decide) kt kf
theorem t_Mo_isGap_17 {d : Nat} {st : List Value} {o0 : Option Value} {o1 : Option Value} {o2 : Option Value} {x3 : Int32} {o4 : Option Value} {w : qk_W} {nc ns : Nat} {Q : Option Value ⊕ Nat → qk_W → Nat → Nat → Prop}  (hc1 : qk_c2 [o0, o1, o2, some (.int x3), o4] 3 = true) (k : Ev d m_Mo_isGap 4 [o0, o1, o2, some (.int (x3 + (-1))), o4] st w nc ns Q) : Ev d m_Mo_isGap 17 [o0, o1, o2, some (.int x3), o4] st w nc ns Q := by
  refine ev_iinc (-1) d_Mo_isGap_17 (by decide) rfl (by decide) hc1 ?_
  refine ev_goto 4 d_Mo_isGap_20 (by decide) ?_
  exact k
theorem t_Mo_isGap_23 {d : Nat} {st : List Value} {o0 : Option Value} {o1 : Option Value} {o2 : Option Value} {o3 : Option Value} {o4 : Option Value} {w : qk_W} {nc ns : Nat} {Q : Option Value ⊕ Nat → qk_W → Nat → Nat → Prop}  (hc1 : qk_c2 [o0, o1, o2, o3, o4] 4 = true) (k : Ev d m_Mo_isGap 26 [o0, o1, o2, o3, some (.int 0)] st w nc ns Q) : Ev d m_Mo_isGap 23 [o0, o1, o2, o3, o4] st w nc ns Q := by
  refine ev_iconst 0 d_Mo_isGap_23 (by decide) ?_
  refine ev_istore d_Mo_isGap_24 (by decide) hc1 ?_
  exact k
theorem t_Mo_isGap_26 {d : Nat} {st : List Value} {o0 : Option Value} {o1 : Option Value} {o2 : Option Value} {o3 : Option Value} {x4 : Int32} {w : qk_W} {nc ns : Nat} {Q : Option Value ⊕ Nat → qk_W → Nat → Nat → Prop}   (kt : (32768 : Int32) ≤ x4 → Ev d m_Mo_isGap 49 [o0, o1, o2, o3, some (.int x4)] st w nc ns Q) (kf : ¬ ((32768 : Int32) ≤ x4) → Ev d m_Mo_isGap 33 [o0, o1, o2, o3, some (.int x4)] st w nc ns Q) : Ev d m_Mo_isGap 26 [o0, o1, o2, o3, some (.int x4)] st w nc ns Q := by
  refine ev_iload d_Mo_isGap_26 rfl ?_
  refine ev_ldc 32768 d_Mo_isGap_28 lc_Mo_46 ?_
  exact ev_icmp_ge 49 d_Mo_isGap_30 (by decide) kt kf
theorem t_Mo_isGap_33 {d : Nat} {st : List Value} {a0 : Nat} {x1 : Int32} {o2 : Option Value} {o3 : Option Value} {x4 : Int32} {fsb : List Value} {w : qk_W} {nc ns : Nat} {Q : Option Value ⊕ Nat → qk_W → Nat → Nat → Prop}  (hb : wo w a0 11 fsb) (h8 : (st.map fun v => Value.category v).sum ≤ 8) (k : Ev d m_Mo_isHeard 0 [some (.ref a0), some (.int x1), some (.int x4)] [] w nc ns (fun r w1 nc1 ns1 => match r with | .inl v => Ev (d + 1) m_Mo_isGap 40 [some (.ref a0), some (.int x1), o2, o3, some (.int x4)] (v.toList ++ st) w1 nc1 ns1 Q | .inr x => Q (.inr x) w1 nc1 ns1)) : Ev (d + 1) m_Mo_isGap 33 [some (.ref a0), some (.int x1), o2, o3, some (.int x4)] st w nc ns Q := by
  refine ev_aload_n d_Mo_isGap_33 rfl rfl ?_
  refine ev_iload_n d_Mo_isGap_34 rfl ?_
  refine ev_iload d_Mo_isGap_35 rfl ?_
  exact ev_call (M' := m_Mo_isHeard) (As := [.ref a0, .int x1, .int x4]) (st := st) d_Mo_isGap_37 i_Mo_isHeard (fun h => absurd h (by decide +kernel)) cw_Mo_202 rfl rfl ⟨hb.1, 11, _, _, hb.2, rfl, rfl⟩ rfl (Nat.le_of_ble_eq_true rfl) h8 k
theorem t_Mo_isGap_40 {d : Nat} {st : List Value} {o0 : Option Value} {o1 : Option Value} {o2 : Option Value} {o3 : Option Value} {o4 : Option Value} {y0 : Int32} {w : qk_W} {nc ns : Nat} {Q : Option Value ⊕ Nat → qk_W → Nat → Nat → Prop}   (kt : ¬ y0 = 0 → Ev d m_Mo_isGap 49 [o0, o1, o2, o3, o4] st w nc ns Q) (kf : y0 = 0 → Ev d m_Mo_isGap 43 [o0, o1, o2, o3, o4] st w nc ns Q) : Ev d m_Mo_isGap 40 [o0, o1, o2, o3, o4] (.int y0 :: st) w nc ns Q := by
  exact ev_if_ne 49 d_Mo_isGap_40 (by decide) kt kf
theorem t_Mo_isGap_43 {d : Nat} {st : List Value} {o0 : Option Value} {o1 : Option Value} {o2 : Option Value} {o3 : Option Value} {x4 : Int32} {w : qk_W} {nc ns : Nat} {Q : Option Value ⊕ Nat → qk_W → Nat → Nat → Prop}  (hc1 : qk_c2 [o0, o1, o2, o3, some (.int x4)] 4 = true) (k : Ev d m_Mo_isGap 26 [o0, o1, o2, o3, some (.int (x4 + 1))] st w nc ns Q) : Ev d m_Mo_isGap 43 [o0, o1, o2, o3, some (.int x4)] st w nc ns Q := by
  refine ev_iinc 1 d_Mo_isGap_43 (by decide) rfl (by decide) hc1 ?_
  refine ev_goto 26 d_Mo_isGap_46 (by decide) ?_
  exact k
theorem t_Mo_isGap_49 {d : Nat} {st : List Value} {v0 : Value} {o1 : Option Value} {x2 : Int32} {o3 : Option Value} {x4 : Int32} {w : qk_W} {nc ns : Nat} {Q : Option Value ⊕ Nat → qk_W → Nat → Nat → Prop} (hv0 : qk_isr v0 = true)  (kt : x2 ≤ x4 → Ev d m_Mo_isGap 60 [some v0, o1, some (.int x2), o3, some (.int x4)] (v0 :: st) w nc ns Q) (kf : ¬ (x2 ≤ x4) → Ev d m_Mo_isGap 56 [some v0, o1, some (.int x2), o3, some (.int x4)] (v0 :: st) w nc ns Q) : Ev d m_Mo_isGap 49 [some v0, o1, some (.int x2), o3, some (.int x4)] st w nc ns Q := by
  refine ev_aload_n d_Mo_isGap_49 rfl hv0 ?_
  refine ev_iload_n d_Mo_isGap_50 rfl ?_
  refine ev_iload d_Mo_isGap_51 rfl ?_
  exact ev_icmp_le 60 d_Mo_isGap_53 (by decide) kt kf
theorem t_Mo_isGap_56 {d : Nat} {st : List Value} {o0 : Option Value} {o1 : Option Value} {x2 : Int32} {o3 : Option Value} {o4 : Option Value} {b0 : Nat} {fs2 : List Value} {w : qk_W} {nc ns : Nat} {Q : Option Value ⊕ Nat → qk_W → Nat → Nat → Prop}  (hw1 : wo w b0 11 fs2) (hk : 32 < fs2.length) (k : Ev d m_Mo_isGap 65 [o0, o1, some (.int x2), o3, o4] st (qk_set w b0 (.inr (11, fs2.set 32 (.int x2)))) nc ns Q) : Ev d m_Mo_isGap 56 [o0, o1, some (.int x2), o3, o4] (.ref b0 :: st) w nc ns Q := by
  refine ev_iload_n d_Mo_isGap_56 rfl ?_
  refine ev_goto 62 d_Mo_isGap_57 (by decide) ?_
  exact ev_putf d_Mo_isGap_62 fl_Mo_205 rfl hw1.1 hw1.2 hk (qk_fitI _) k
theorem t_Mo_isGap_60 {d : Nat} {st : List Value} {o0 : Option Value} {o1 : Option Value} {o2 : Option Value} {o3 : Option Value} {x4 : Int32} {b0 : Nat} {fs2 : List Value} {w : qk_W} {nc ns : Nat} {Q : Option Value ⊕ Nat → qk_W → Nat → Nat → Prop}  (hw1 : wo w b0 11 fs2) (hk : 32 < fs2.length) (k : Ev d m_Mo_isGap 65 [o0, o1, o2, o3, some (.int x4)] st (qk_set w b0 (.inr (11, fs2.set 32 (.int x4)))) nc ns Q) : Ev d m_Mo_isGap 60 [o0, o1, o2, o3, some (.int x4)] (.ref b0 :: st) w nc ns Q := by
  refine ev_iload d_Mo_isGap_60 rfl ?_
  exact ev_putf d_Mo_isGap_62 fl_Mo_205 rfl hw1.1 hw1.2 hk (qk_fitI _) k
theorem t_Mo_isGap_65 {d : Nat} {st : List Value} {a0 : Nat} {o1 : Option Value} {o2 : Option Value} {x3 : Int32} {o4 : Option Value} {fs2 : List Value} {n4 : Int32} {w : qk_W} {nc ns : Nat} {Q : Option Value ⊕ Nat → qk_W → Nat → Nat → Prop}  (hw1 : wo w a0 11 fs2) (hf3 : fs2[32]? = some (.int n4)) (kt : x3 < n4 → Ev d m_Mo_isGap 98 [some (.ref a0), o1, o2, some (.int x3), o4] st w nc ns Q) (kf : ¬ (x3 < n4) → Ev d m_Mo_isGap 73 [some (.ref a0), o1, o2, some (.int x3), o4] st w nc ns Q) : Ev d m_Mo_isGap 65 [some (.ref a0), o1, o2, some (.int x3), o4] st w nc ns Q := by
  refine ev_aload_n d_Mo_isGap_65 rfl rfl ?_
  refine ev_getf d_Mo_isGap_66 fl_Mo_205 hw1.1 hw1.2 hf3 ?_
  refine ev_iload_n d_Mo_isGap_69 rfl ?_
  exact ev_icmp_gt 98 d_Mo_isGap_70 (by decide) kt kf
theorem t_Mo_isGap_73 {d : Nat} {st : List Value} {a0 : Nat} {x1 : Int32} {o2 : Option Value} {o3 : Option Value} {o4 : Option Value} {fs2 : List Value} {n4 : Int32} {w : qk_W} {nc ns : Nat} {Q : Option Value ⊕ Nat → qk_W → Nat → Nat → Prop}  (hw1 : wo w a0 11 fs2) (hf3 : fs2[32]? = some (.int n4)) (h8 : (st.map fun v => Value.category v).sum ≤ 8) (k : Ev d m_Mo_isHeard 0 [some (.ref a0), some (.int x1), some (.int n4)] [] w nc ns (fun r w1 nc1 ns1 => match r with | .inl v => Ev (d + 1) m_Mo_isGap 82 [some (.ref a0), some (.int x1), o2, o3, o4] (v.toList ++ st) w1 nc1 ns1 Q | .inr x => Q (.inr x) w1 nc1 ns1)) : Ev (d + 1) m_Mo_isGap 73 [some (.ref a0), some (.int x1), o2, o3, o4] st w nc ns Q := by
  refine ev_aload_n d_Mo_isGap_73 rfl rfl ?_
  refine ev_iload_n d_Mo_isGap_74 rfl ?_
  refine ev_aload_n d_Mo_isGap_75 rfl rfl ?_
  refine ev_getf d_Mo_isGap_76 fl_Mo_205 hw1.1 hw1.2 hf3 ?_
  exact ev_call (M' := m_Mo_isHeard) (As := [.ref a0, .int x1, .int n4]) (st := st) d_Mo_isGap_79 i_Mo_isHeard (fun h => absurd h (by decide +kernel)) cw_Mo_202 rfl rfl ⟨hw1.1, 11, _, _, hw1.2, rfl, rfl⟩ rfl (Nat.le_of_ble_eq_true rfl) h8 k
theorem t_Mo_isGap_82 {d : Nat} {st : List Value} {o0 : Option Value} {o1 : Option Value} {o2 : Option Value} {o3 : Option Value} {o4 : Option Value} {y0 : Int32} {w : qk_W} {nc ns : Nat} {Q : Option Value ⊕ Nat → qk_W → Nat → Nat → Prop}   (kt : y0 = 0 → Ev d m_Mo_isGap 98 [o0, o1, o2, o3, o4] st w nc ns Q) (kf : ¬ (y0 = 0) → Ev d m_Mo_isGap 85 [o0, o1, o2, o3, o4] st w nc ns Q) : Ev d m_Mo_isGap 82 [o0, o1, o2, o3, o4] (.int y0 :: st) w nc ns Q := by
  exact ev_if_eq 98 d_Mo_isGap_82 (by decide) kt kf
theorem t_Mo_isGap_85 {d : Nat} {st : List Value} {a0 : Nat} {o1 : Option Value} {o2 : Option Value} {o3 : Option Value} {o4 : Option Value} {fs2 : List Value} {n4 : Int32} {w : qk_W} {nc ns : Nat} {Q : Option Value ⊕ Nat → qk_W → Nat → Nat → Prop}  (hw1 : wo w a0 11 fs2) (hf3 : fs2[32]? = some (.int n4)) (hk : 32 < fs2.length) (k : Ev d m_Mo_isGap 95 [some (.ref a0), o1, o2, o3, o4] st (qk_set w a0 (.inr (11, fs2.set 32 (.int (n4 + 1))))) nc ns Q) : Ev d m_Mo_isGap 85 [some (.ref a0), o1, o2, o3, o4] st w nc ns Q := by
  refine ev_aload_n d_Mo_isGap_85 rfl rfl ?_
  refine ev_dup d_Mo_isGap_86 rfl ?_
  refine ev_getf d_Mo_isGap_87 fl_Mo_205 hw1.1 hw1.2 hf3 ?_
  refine ev_iconst 1 d_Mo_isGap_90 (by decide) ?_
  refine ev_iadd d_Mo_isGap_91 ?_
  exact ev_putf d_Mo_isGap_92 fl_Mo_205 rfl hw1.1 hw1.2 hk (qk_fitI _) k
theorem t_Mo_isGap_95 {d : Nat} {st : List Value} {o0 : Option Value} {o1 : Option Value} {o2 : Option Value} {o3 : Option Value} {o4 : Option Value} {w : qk_W} {nc ns : Nat} {Q : Option Value ⊕ Nat → qk_W → Nat → Nat → Prop}   (k : Ev d m_Mo_isGap 65 [o0, o1, o2, o3, o4] st w nc ns Q) : Ev d m_Mo_isGap 95 [o0, o1, o2, o3, o4] st w nc ns Q := by
  refine ev_goto 65 d_Mo_isGap_95 (by decide) ?_
  exact k
theorem t_Mo_isGap_98 {d : Nat} {st : List Value} {a0 : Nat} {o1 : Option Value} {o2 : Option Value} {x3 : Int32} {o4 : Option Value} {fs2 : List Value} {n4 : Int32} {w : qk_W} {nc ns : Nat} {Q : Option Value ⊕ Nat → qk_W → Nat → Nat → Prop}  (hw1 : wo w a0 11 fs2) (hf3 : fs2[32]? = some (.int n4)) (kt : n4 ≤ x3 → Ev d m_Mo_isGap 108 [some (.ref a0), o1, o2, some (.int x3), o4] st w nc ns Q) (kf : ¬ (n4 ≤ x3) → Ev d m_Mo_isGap 106 [some (.ref a0), o1, o2, some (.int x3), o4] st w nc ns Q) : Ev d m_Mo_isGap 98 [some (.ref a0), o1, o2, some (.int x3), o4] st w nc ns Q := by
  refine ev_aload_n d_Mo_isGap_98 rfl rfl ?_
  refine ev_getf d_Mo_isGap_99 fl_Mo_205 hw1.1 hw1.2 hf3 ?_
  refine ev_iload_n d_Mo_isGap_102 rfl ?_
  exact ev_icmp_le 108 d_Mo_isGap_103 (by decide) kt kf
theorem t_Mo_isGap_106 {d : Nat} {o0 : Option Value} {o1 : Option Value} {o2 : Option Value} {o3 : Option Value} {o4 : Option Value} {w : qk_W} {nc ns : Nat} {Q : Option Value ⊕ Nat → qk_W → Nat → Nat → Prop}   (hq : Q (.inl (some (.int 0))) w nc ns) : Ev d m_Mo_isGap 106 [o0, o1, o2, o3, o4] [] w nc ns Q := by
  refine ev_iconst 0 d_Mo_isGap_106 (by decide) ?_
  exact ev_iret d_Mo_isGap_107 rfl rfl hq
theorem t_Mo_isGap_108 {d : Nat} {st : List Value} {a0 : Nat} {o1 : Option Value} {o2 : Option Value} {o3 : Option Value} {o4 : Option Value} {fs2 : List Value} {n4 : Int32} {w : qk_W} {nc ns : Nat} {Q : Option Value ⊕ Nat → qk_W → Nat → Nat → Prop}  (hw1 : wo w a0 11 fs2) (hf3 : fs2[32]? = some (.int n4)) (hk : 33 < fs2.length) (k : Ev d m_Mo_isGap 116 [some (.ref a0), o1, o2, o3, o4] st (qk_set w a0 (.inr (11, fs2.set 33 (.int n4)))) nc ns Q) : Ev d m_Mo_isGap 108 [some (.ref a0), o1, o2, o3, o4] st w nc ns Q := by
  refine ev_aload_n d_Mo_isGap_108 rfl rfl ?_
  refine ev_aload_n d_Mo_isGap_109 rfl rfl ?_
  refine ev_getf d_Mo_isGap_110 fl_Mo_205 hw1.1 hw1.2 hf3 ?_
  exact ev_putf d_Mo_isGap_113 fl_Mo_208 rfl hw1.1 hw1.2 hk (qk_fitI _) k
theorem t_Mo_isGap_116 {d : Nat} {st : List Value} {a0 : Nat} {x1 : Int32} {o2 : Option Value} {o3 : Option Value} {o4 : Option Value} {fs2 : List Value} {n4 : Int32} {w : qk_W} {nc ns : Nat} {Q : Option Value ⊕ Nat → qk_W → Nat → Nat → Prop}  (hw1 : wo w a0 11 fs2) (hf3 : fs2[33]? = some (.int n4)) (h8 : (st.map fun v => Value.category v).sum ≤ 8) (k : Ev d m_Mo_isHeard 0 [some (.ref a0), some (.int x1), some (.int (n4 + 1))] [] w nc ns (fun r w1 nc1 ns1 => match r with | .inl v => Ev (d + 1) m_Mo_isGap 127 [some (.ref a0), some (.int x1), o2, o3, o4] (v.toList ++ st) w1 nc1 ns1 Q | .inr x => Q (.inr x) w1 nc1 ns1)) : Ev (d + 1) m_Mo_isGap 116 [some (.ref a0), some (.int x1), o2, o3, o4] st w nc ns Q := by
  refine ev_aload_n d_Mo_isGap_116 rfl rfl ?_
  refine ev_iload_n d_Mo_isGap_117 rfl ?_
  refine ev_aload_n d_Mo_isGap_118 rfl rfl ?_
  refine ev_getf d_Mo_isGap_119 fl_Mo_208 hw1.1 hw1.2 hf3 ?_
  refine ev_iconst 1 d_Mo_isGap_122 (by decide) ?_
  refine ev_iadd d_Mo_isGap_123 ?_
  exact ev_call (M' := m_Mo_isHeard) (As := [.ref a0, .int x1, .int (n4 + 1)]) (st := st) d_Mo_isGap_124 i_Mo_isHeard (fun h => absurd h (by decide +kernel)) cw_Mo_202 rfl rfl ⟨hw1.1, 11, _, _, hw1.2, rfl, rfl⟩ rfl (Nat.le_of_ble_eq_true rfl) h8 k
theorem t_Mo_isGap_127 {d : Nat} {st : List Value} {o0 : Option Value} {o1 : Option Value} {o2 : Option Value} {o3 : Option Value} {o4 : Option Value} {y0 : Int32} {w : qk_W} {nc ns : Nat} {Q : Option Value ⊕ Nat → qk_W → Nat → Nat → Prop}   (kt : ¬ y0 = 0 → Ev d m_Mo_isGap 143 [o0, o1, o2, o3, o4] st w nc ns Q) (kf : y0 = 0 → Ev d m_Mo_isGap 130 [o0, o1, o2, o3, o4] st w nc ns Q) : Ev d m_Mo_isGap 127 [o0, o1, o2, o3, o4] (.int y0 :: st) w nc ns Q := by
  exact ev_if_ne 143 d_Mo_isGap_127 (by decide) kt kf
theorem t_Mo_isGap_130 {d : Nat} {st : List Value} {a0 : Nat} {o1 : Option Value} {o2 : Option Value} {o3 : Option Value} {o4 : Option Value} {fs2 : List Value} {n4 : Int32} {w : qk_W} {nc ns : Nat} {Q : Option Value ⊕ Nat → qk_W → Nat → Nat → Prop}  (hw1 : wo w a0 11 fs2) (hf3 : fs2[33]? = some (.int n4)) (hk : 33 < fs2.length) (k : Ev d m_Mo_isGap 140 [some (.ref a0), o1, o2, o3, o4] st (qk_set w a0 (.inr (11, fs2.set 33 (.int (n4 + 1))))) nc ns Q) : Ev d m_Mo_isGap 130 [some (.ref a0), o1, o2, o3, o4] st w nc ns Q := by
  refine ev_aload_n d_Mo_isGap_130 rfl rfl ?_
  refine ev_dup d_Mo_isGap_131 rfl ?_
  refine ev_getf d_Mo_isGap_132 fl_Mo_208 hw1.1 hw1.2 hf3 ?_
  refine ev_iconst 1 d_Mo_isGap_135 (by decide) ?_
  refine ev_iadd d_Mo_isGap_136 ?_
  exact ev_putf d_Mo_isGap_137 fl_Mo_208 rfl hw1.1 hw1.2 hk (qk_fitI _) k
theorem t_Mo_isGap_140 {d : Nat} {st : List Value} {o0 : Option Value} {o1 : Option Value} {o2 : Option Value} {o3 : Option Value} {o4 : Option Value} {w : qk_W} {nc ns : Nat} {Q : Option Value ⊕ Nat → qk_W → Nat → Nat → Prop}   (k : Ev d m_Mo_isGap 116 [o0, o1, o2, o3, o4] st w nc ns Q) : Ev d m_Mo_isGap 140 [o0, o1, o2, o3, o4] st w nc ns Q := by
  refine ev_goto 116 d_Mo_isGap_140 (by decide) ?_
  exact k
theorem t_Mo_isGap_143 {d : Nat} {o0 : Option Value} {o1 : Option Value} {o2 : Option Value} {o3 : Option Value} {o4 : Option Value} {w : qk_W} {nc ns : Nat} {Q : Option Value ⊕ Nat → qk_W → Nat → Nat → Prop}   (hq : Q (.inl (some (.int 1))) w nc ns) : Ev d m_Mo_isGap 143 [o0, o1, o2, o3, o4] [] w nc ns Q := by
  refine ev_iconst 1 d_Mo_isGap_143 (by decide) ?_
  exact ev_iret d_Mo_isGap_144 rfl rfl hq
/-! Mo_gap -/
theorem d_Mo_gap_0 : decode m_Mo_gap.2.1 0 = .ok (.aload_n 0, 1) := by decide +kernel
theorem d_Mo_gap_1 : decode m_Mo_gap.2.1 1 = .ok (.iload_n 1, 1) := by decide +kernel
theorem d_Mo_gap_2 : decode m_Mo_gap.2.1 2 = .ok (.invokestatic 101, 3) := by decide +kernel
theorem d_Mo_gap_5 : decode m_Mo_gap.2.1 5 = .ok (.ifCond .eq 11, 3) := by decide +kernel
theorem d_Mo_gap_8 : decode m_Mo_gap.2.1 8 = .ok (.iload_n 2, 1) := by decide +kernel
theorem d_Mo_gap_9 : decode m_Mo_gap.2.1 9 = .ok (.ifCond .lt 7, 3) := by decide +kernel
theorem d_Mo_gap_12 : decode m_Mo_gap.2.1 12 = .ok (.iconst 0, 1) := by decide +kernel
theorem d_Mo_gap_13 : decode m_Mo_gap.2.1 13 = .ok (.goto 4, 3) := by decide +kernel
theorem d_Mo_gap_16 : decode m_Mo_gap.2.1 16 = .ok (.iconst 1, 1) := by decide +kernel
theorem d_Mo_gap_17 : decode m_Mo_gap.2.1 17 = .ok (.putfield 69, 3) := by decide +kernel
theorem d_Mo_gap_20 : decode m_Mo_gap.2.1 20 = .ok (.aload_n 0, 1) := by decide +kernel
theorem d_Mo_gap_21 : decode m_Mo_gap.2.1 21 = .ok (.getfield 69, 3) := by decide +kernel
theorem d_Mo_gap_24 : decode m_Mo_gap.2.1 24 = .ok (.ifCond .ne 16, 3) := by decide +kernel
theorem d_Mo_gap_27 : decode m_Mo_gap.2.1 27 = .ok (.aload_n 0, 1) := by decide +kernel
theorem d_Mo_gap_28 : decode m_Mo_gap.2.1 28 = .ok (.iload_n 1, 1) := by decide +kernel
theorem d_Mo_gap_29 : decode m_Mo_gap.2.1 29 = .ok (.iconst 0, 1) := by decide +kernel
theorem d_Mo_gap_30 : decode m_Mo_gap.2.1 30 = .ok (.invokevirtual 211, 3) := by decide +kernel
theorem d_Mo_gap_33 : decode m_Mo_gap.2.1 33 = .ok (.ifCond .eq 7, 3) := by decide +kernel
theorem d_Mo_gap_36 : decode m_Mo_gap.2.1 36 = .ok (.iconst 1, 1) := by decide +kernel
theorem d_Mo_gap_37 : decode m_Mo_gap.2.1 37 = .ok (.goto 4, 3) := by decide +kernel
theorem d_Mo_gap_40 : decode m_Mo_gap.2.1 40 = .ok (.iconst 0, 1) := by decide +kernel
theorem d_Mo_gap_41 : decode m_Mo_gap.2.1 41 = .ok (.istore 4, 2) := by decide +kernel
theorem d_Mo_gap_43 : decode m_Mo_gap.2.1 43 = .ok (.iconst 0, 1) := by decide +kernel
theorem d_Mo_gap_44 : decode m_Mo_gap.2.1 44 = .ok (.istore 5, 2) := by decide +kernel
theorem d_Mo_gap_46 : decode m_Mo_gap.2.1 46 = .ok (.iload 5, 2) := by decide +kernel
theorem d_Mo_gap_48 : decode m_Mo_gap.2.1 48 = .ok (.iload_n 2, 1) := by decide +kernel
theorem d_Mo_gap_49 : decode m_Mo_gap.2.1 49 = .ok (.if_icmp .ge 27, 3) := by decide +kernel
theorem d_Mo_gap_52 : decode m_Mo_gap.2.1 52 = .ok (.iload 4, 2) := by decide +kernel
theorem d_Mo_gap_54 : decode m_Mo_gap.2.1 54 = .ok (.ifCond .eq 22, 3) := by decide +kernel
theorem d_Mo_gap_57 : decode m_Mo_gap.2.1 57 = .ok (.aload_n 0, 1) := by decide +kernel
theorem d_Mo_gap_58 : decode m_Mo_gap.2.1 58 = .ok (.iload_n 1, 1) := by decide +kernel
theorem d_Mo_gap_59 : decode m_Mo_gap.2.1 59 = .ok (.aload_n 0, 1) := by decide +kernel
theorem d_Mo_gap_60 : decode m_Mo_gap.2.1 60 = .ok (.getfield 208, 3) := by decide +kernel
theorem d_Mo_gap_63 : decode m_Mo_gap.2.1 63 = .ok (.iconst 1, 1) := by decide +kernel
theorem d_Mo_gap_64 : decode m_Mo_gap.2.1 64 = .ok (.iadd, 1) := by decide +kernel
theorem d_Mo_gap_65 : decode m_Mo_gap.2.1 65 = .ok (.invokevirtual 211, 3) := by decide +kernel
theorem d_Mo_gap_68 : decode m_Mo_gap.2.1 68 = .ok (.istore 4, 2) := by decide +kernel
theorem d_Mo_gap_70 : decode m_Mo_gap.2.1 70 = .ok (.iinc 5 1, 3) := by decide +kernel
theorem d_Mo_gap_73 : decode m_Mo_gap.2.1 73 = .ok (.goto (-27), 3) := by decide +kernel
theorem d_Mo_gap_76 : decode m_Mo_gap.2.1 76 = .ok (.aload_n 0, 1) := by decide +kernel
theorem d_Mo_gap_77 : decode m_Mo_gap.2.1 77 = .ok (.iload 4, 2) := by decide +kernel
theorem d_Mo_gap_79 : decode m_Mo_gap.2.1 79 = .ok (.ifCond .eq 7, 3) := by decide +kernel
theorem d_Mo_gap_82 : decode m_Mo_gap.2.1 82 = .ok (.iconst 0, 1) := by decide +kernel
theorem d_Mo_gap_83 : decode m_Mo_gap.2.1 83 = .ok (.goto 4, 3) := by decide +kernel
theorem d_Mo_gap_86 : decode m_Mo_gap.2.1 86 = .ok (.iconst 1, 1) := by decide +kernel
theorem d_Mo_gap_87 : decode m_Mo_gap.2.1 87 = .ok (.putfield 69, 3) := by decide +kernel
theorem d_Mo_gap_90 : decode m_Mo_gap.2.1 90 = .ok (.aload_n 0, 1) := by decide +kernel
theorem d_Mo_gap_91 : decode m_Mo_gap.2.1 91 = .ok (.getfield 69, 3) := by decide +kernel
theorem d_Mo_gap_94 : decode m_Mo_gap.2.1 94 = .ok (.ifCond .le 7, 3) := by decide +kernel
theorem d_Mo_gap_97 : decode m_Mo_gap.2.1 97 = .ok (.iconst 0, 1) := by decide +kernel
theorem d_Mo_gap_98 : decode m_Mo_gap.2.1 98 = .ok (.goto 18, 3) := by decide +kernel
theorem d_Mo_gap_101 : decode m_Mo_gap.2.1 101 = .ok (.iload_n 3, 1) := by decide +kernel
theorem d_Mo_gap_102 : decode m_Mo_gap.2.1 102 = .ok (.ifCond .eq 10, 3) := by decide +kernel
theorem d_Mo_gap_105 : decode m_Mo_gap.2.1 105 = .ok (.aload_n 0, 1) := by decide +kernel
theorem d_Mo_gap_106 : decode m_Mo_gap.2.1 106 = .ok (.getfield 208, 3) := by decide +kernel
theorem d_Mo_gap_109 : decode m_Mo_gap.2.1 109 = .ok (.goto 7, 3) := by decide +kernel
theorem d_Mo_gap_112 : decode m_Mo_gap.2.1 112 = .ok (.aload_n 0, 1) := by decide +kernel
theorem d_Mo_gap_113 : decode m_Mo_gap.2.1 113 = .ok (.getfield 205, 3) := by decide +kernel
theorem d_Mo_gap_116 : decode m_Mo_gap.2.1 116 = .ok (.ireturn, 1) := by decide +kernel
theorem t_Mo_gap_0 {d : Nat} {st : List Value} {v0 : Value} {x1 : Int32} {o2 : Option Value} {o3 : Option Value} {o4 : Option Value} {o5 : Option Value} {w : qk_W} {nc ns : Nat} {Q : Option Value ⊕ Nat → qk_W → Nat → Nat → Prop} (hv0 : qk_isr v0 = true) (h8 : ((v0 :: st).map fun v => Value.category v).sum ≤ 8) (k : Ev d m_Mo_isChannel 0 [some (.int x1)] [] w nc ns (fun r w1 nc1 ns1 => match r with | .inl v => Ev (d + 1) m_Mo_gap 5 [some v0, some (.int x1), o2, o3, o4, o5] (v.toList ++ (v0 :: st)) w1 nc1 ns1 Q | .inr x => Q (.inr x) w1 nc1 ns1)) : Ev (d + 1) m_Mo_gap 0 [some v0, some (.int x1), o2, o3, o4, o5] st w nc ns Q := by
  refine ev_aload_n d_Mo_gap_0 rfl hv0 ?_
  refine ev_iload_n d_Mo_gap_1 rfl ?_
  exact ev_call (M' := m_Mo_isChannel) (As := [.int x1]) (st := (v0 :: st)) d_Mo_gap_2 i_Mo_isChannel (fun h => absurd h (by decide +kernel)) cw_Mo_101 rfl rfl trivial rfl (Nat.le_of_ble_eq_true rfl) h8 k
theorem t_Mo_gap_5 {d : Nat} {st : List Value} {o0 : Option Value} {o1 : Option Value} {o2 : Option Value} {o3 : Option Value} {o4 : Option Value} {o5 : Option Value} {y0 : Int32} {w : qk_W} {nc ns : Nat} {Q : Option Value ⊕ Nat → qk_W → Nat → Nat → Prop}   (kt : y0 = 0 → Ev d m_Mo_gap 16 [o0, o1, o2, o3, o4, o5] st w nc ns Q) (kf : ¬ (y0 = 0) → Ev d m_Mo_gap 8 [o0, o1, o2, o3, o4, o5] st w nc ns Q) : Ev d m_Mo_gap 5 [o0, o1, o2, o3, o4, o5] (.int y0 :: st) w nc ns Q := by
  exact ev_if_eq 16 d_Mo_gap_5 (by decide) kt kf
theorem t_Mo_gap_8 {d : Nat} {st : List Value} {o0 : Option Value} {o1 : Option Value} {x2 : Int32} {o3 : Option Value} {o4 : Option Value} {o5 : Option Value} {w : qk_W} {nc ns : Nat} {Q : Option Value ⊕ Nat → qk_W → Nat → Nat → Prop}   (kt : x2 < 0 → Ev d m_Mo_gap 16 [o0, o1, some (.int x2), o3, o4, o5] st w nc ns Q) (kf : ¬ (x2 < 0) → Ev d m_Mo_gap 12 [o0, o1, some (.int x2), o3, o4, o5] st w nc ns Q) : Ev d m_Mo_gap 8 [o0, o1, some (.int x2), o3, o4, o5] st w nc ns Q := by
  refine ev_iload_n d_Mo_gap_8 rfl ?_
  exact ev_if_lt 16 d_Mo_gap_9 (by decide) kt kf
theorem t_Mo_gap_12 {d : Nat} {st : List Value} {o0 : Option Value} {o1 : Option Value} {o2 : Option Value} {o3 : Option Value} {o4 : Option Value} {o5 : Option Value} {b0 : Nat} {fs2 : List Value} {w : qk_W} {nc ns : Nat} {Q : Option Value ⊕ Nat → qk_W → Nat → Nat → Prop}  (hw1 : wo w b0 11 fs2) (hk : 0 < fs2.length) (k : Ev d m_Mo_gap 20 [o0, o1, o2, o3, o4, o5] st (qk_set w b0 (.inr (11, fs2.set 0 (.int 0)))) nc ns Q) : Ev d m_Mo_gap 12 [o0, o1, o2, o3, o4, o5] (.ref b0 :: st) w nc ns Q := by
  refine ev_iconst 0 d_Mo_gap_12 (by decide) ?_
  refine ev_goto 17 d_Mo_gap_13 (by decide) ?_
  exact ev_putf d_Mo_gap_17 fl_Mo_69 rfl hw1.1 hw1.2 hk (qk_fitI _) k
theorem t_Mo_gap_16 {d : Nat} {st : List Value} {o0 : Option Value} {o1 : Option Value} {o2 : Option Value} {o3 : Option Value} {o4 : Option Value} {o5 : Option Value} {b0 : Nat} {fs2 : List Value} {w : qk_W} {nc ns : Nat} {Q : Option Value ⊕ Nat → qk_W → Nat → Nat → Prop}  (hw1 : wo w b0 11 fs2) (hk : 0 < fs2.length) (k : Ev d m_Mo_gap 20 [o0, o1, o2, o3, o4, o5] st (qk_set w b0 (.inr (11, fs2.set 0 (.int 1)))) nc ns Q) : Ev d m_Mo_gap 16 [o0, o1, o2, o3, o4, o5] (.ref b0 :: st) w nc ns Q := by
  refine ev_iconst 1 d_Mo_gap_16 (by decide) ?_
  exact ev_putf d_Mo_gap_17 fl_Mo_69 rfl hw1.1 hw1.2 hk (qk_fitI _) k
theorem t_Mo_gap_20 {d : Nat} {st : List Value} {a0 : Nat} {o1 : Option Value} {o2 : Option Value} {o3 : Option Value} {o4 : Option Value} {o5 : Option Value} {fs2 : List Value} {n4 : Int32} {w : qk_W} {nc ns : Nat} {Q : Option Value ⊕ Nat → qk_W → Nat → Nat → Prop}  (hw1 : wo w a0 11 fs2) (hf3 : fs2[0]? = some (.int n4)) (kt : ¬ n4 = 0 → Ev d m_Mo_gap 40 [some (.ref a0), o1, o2, o3, o4, o5] st w nc ns Q) (kf : n4 = 0 → Ev d m_Mo_gap 27 [some (.ref a0), o1, o2, o3, o4, o5] st w nc ns Q) : Ev d m_Mo_gap 20 [some (.ref a0), o1, o2, o3, o4, o5] st w nc ns Q := by
  refine ev_aload_n d_Mo_gap_20 rfl rfl ?_
  refine ev_getf d_Mo_gap_21 fl_Mo_69 hw1.1 hw1.2 hf3 ?_
  exact ev_if_ne 40 d_Mo_gap_24 (by decide) kt kf
theorem t_Mo_gap_27 {d : Nat} {st : List Value} {a0 : Nat} {x1 : Int32} {o2 : Option Value} {o3 : Option Value} {o4 : Option Value} {o5 : Option Value} {fsb : List Value} {w : qk_W} {nc ns : Nat} {Q : Option Value ⊕ Nat → qk_W → Nat → Nat → Prop}  (hb : wo w a0 11 fsb) (h8 : (st.map fun v => Value.category v).sum ≤ 8) (k : Ev d m_Mo_isGap 0 [some (.ref a0), some (.int x1), some (.int 0), none, none] [] w nc ns (fun r w1 nc1 ns1 => match r with | .inl v => Ev (d + 1) m_Mo_gap 33 [some (.ref a0), some (.int x1), o2, o3, o4, o5] (v.toList ++ st) w1 nc1 ns1 Q | .inr x => Q (.inr x) w1 nc1 ns1)) : Ev (d + 1) m_Mo_gap 27 [some (.ref a0), some (.int x1), o2, o3, o4, o5] st w nc ns Q := by
  refine ev_aload_n d_Mo_gap_27 rfl rfl ?_
  refine ev_iload_n d_Mo_gap_28 rfl ?_
  refine ev_iconst 0 d_Mo_gap_29 (by decide) ?_
  exact ev_call (M' := m_Mo_isGap) (As := [.ref a0, .int x1, .int 0]) (st := st) d_Mo_gap_30 i_Mo_isGap (fun h => absurd h (by decide +kernel)) cw_Mo_211 rfl rfl ⟨hb.1, 11, _, _, hb.2, rfl, rfl⟩ rfl (Nat.le_of_ble_eq_true rfl) h8 k
theorem t_Mo_gap_33 {d : Nat} {st : List Value} {o0 : Option Value} {o1 : Option Value} {o2 : Option Value} {o3 : Option Value} {o4 : Option Value} {o5 : Option Value} {y0 : Int32} {w : qk_W} {nc ns : Nat} {Q : Option Value ⊕ Nat → qk_W → Nat → Nat → Prop}   (kt : y0 = 0 → Ev d m_Mo_gap 40 [o0, o1, o2, o3, o4, o5] st w nc ns Q) (kf : ¬ (y0 = 0) → Ev d m_Mo_gap 36 [o0, o1, o2, o3, o4, o5] st w nc ns Q) : Ev d m_Mo_gap 33 [o0, o1, o2, o3, o4, o5] (.int y0 :: st) w nc ns Q := by
  exact ev_if_eq 40 d_Mo_gap_33 (by decide) kt kf
theorem t_Mo_gap_36 {d : Nat} {st : List Value} {o0 : Option Value} {o1 : Option Value} {o2 : Option Value} {o3 : Option Value} {o4 : Option Value} {o5 : Option Value} {w : qk_W} {nc ns : Nat} {Q : Option Value ⊕ Nat → qk_W → Nat → Nat → Prop}  (hc1 : qk_c2 [o0, o1, o2, o3, o4, o5] 4 = true) (k : Ev d m_Mo_gap 46 [o0, o1, o2, o3, some (.int 1), some (.int 0)] st w nc ns Q) : Ev d m_Mo_gap 36 [o0, o1, o2, o3, o4, o5] st w nc ns Q := by
  refine ev_iconst 1 d_Mo_gap_36 (by decide) ?_
  refine ev_goto 41 d_Mo_gap_37 (by decide) ?_
  refine ev_istore d_Mo_gap_41 (by decide) hc1 ?_
  refine ev_iconst 0 d_Mo_gap_43 (by decide) ?_
  refine ev_istore d_Mo_gap_44 (by decide) rfl ?_
  exact k
theorem t_Mo_gap_40 {d : Nat} {st : List Value} {o0 : Option Value} {o1 : Option Value} {o2 : Option Value} {o3 : Option Value} {o4 : Option Value} {o5 : Option Value} {w : qk_W} {nc ns : Nat} {Q : Option Value ⊕ Nat → qk_W → Nat → Nat → Prop}  (hc1 : qk_c2 [o0, o1, o2, o3, o4, o5] 4 = true) (k : Ev d m_Mo_gap 46 [o0, o1, o2, o3, some (.int 0), some (.int 0)] st w nc ns Q) : Ev d m_Mo_gap 40 [o0, o1, o2, o3, o4, o5] st w nc ns Q := by
  refine ev_iconst 0 d_Mo_gap_40 (by decide) ?_
  refine ev_istore d_Mo_gap_41 (by decide) hc1 ?_
  refine ev_iconst 0 d_Mo_gap_43 (by decide) ?_
  refine ev_istore d_Mo_gap_44 (by decide) rfl ?_
  exact k
theorem t_Mo_gap_46 {d : Nat} {st : List Value} {o0 : Option Value} {o1 : Option Value} {x2 : Int32} {o3 : Option Value} {o4 : Option Value} {x5 : Int32} {w : qk_W} {nc ns : Nat} {Q : Option Value ⊕ Nat → qk_W → Nat → Nat → Prop}   (kt : x2 ≤ x5 → Ev d m_Mo_gap 76 [o0, o1, some (.int x2), o3, o4, some (.int x5)] st w nc ns Q) (kf : ¬ (x2 ≤ x5) → Ev d m_Mo_gap 52 [o0, o1, some (.int x2), o3, o4, some (.int x5)] st w nc ns Q) : Ev d m_Mo_gap 46 [o0, o1, some (.int x2), o3, o4, some (.int x5)] st w nc ns Q := by
  refine ev_iload d_Mo_gap_46 rfl ?_
  refine ev_iload_n d_Mo_gap_48 rfl ?_
  exact ev_icmp_ge 76 d_Mo_gap_49 (by decide) kt kf
theorem t_Mo_gap_52 {d : Nat} {st : List Value} {o0 : Option Value} {o1 : Option Value} {o2 : Option Value} {o3 : Option Value} {x4 : Int32} {o5 : Option Value} {w : qk_W} {nc ns : Nat} {Q : Option Value ⊕ Nat → qk_W → Nat → Nat → Prop}   (kt : x4 = 0 → Ev d m_Mo_gap 76 [o0, o1, o2, o3, some (.int x4), o5] st w nc ns Q) (kf : ¬ (x4 = 0) → Ev d m_Mo_gap 57 [o0, o1, o2, o3, some (.int x4), o5] st w nc ns Q) : Ev d m_Mo_gap 52 [o0, o1, o2, o3, some (.int x4), o5] st w nc ns Q := by
  refine ev_iload d_Mo_gap_52 rfl ?_
  exact ev_if_eq 76 d_Mo_gap_54 (by decide) kt kf
theorem t_Mo_gap_57 {d : Nat} {st : List Value} {a0 : Nat} {x1 : Int32} {o2 : Option Value} {o3 : Option Value} {o4 : Option Value} {o5 : Option Value} {fs2 : List Value} {n4 : Int32} {w : qk_W} {nc ns : Nat} {Q : Option Value ⊕ Nat → qk_W → Nat → Nat → Prop}  (hw1 : wo w a0 11 fs2) (hf3 : fs2[33]? = some (.int n4)) (h8 : (st.map fun v => Value.category v).sum ≤ 8) (k : Ev d m_Mo_isGap 0 [some (.ref a0), some (.int x1), some (.int (n4 + 1)), none, none] [] w nc ns (fun r w1 nc1 ns1 => match r with | .inl v => Ev (d + 1) m_Mo_gap 68 [some (.ref a0), some (.int x1), o2, o3, o4, o5] (v.toList ++ st) w1 nc1 ns1 Q | .inr x => Q (.inr x) w1 nc1 ns1)) : Ev (d + 1) m_Mo_gap 57 [some (.ref a0), some (.int x1), o2, o3, o4, o5] st w nc ns Q := by
  refine ev_aload_n d_Mo_gap_57 rfl rfl ?_
  refine ev_iload_n d_Mo_gap_58 rfl ?_
  refine ev_aload_n d_Mo_gap_59 rfl rfl ?_
  refine ev_getf d_Mo_gap_60 fl_Mo_208 hw1.1 hw1.2 hf3 ?_
  refine ev_iconst 1 d_Mo_gap_63 (by decide) ?_
  refine ev_iadd d_Mo_gap_64 ?_
  exact ev_call (M' := m_Mo_isGap) (As := [.ref a0, .int x1, .int (n4 + 1)]) (st := st) d_Mo_gap_65 i_Mo_isGap (fun h => absurd h (by decide +kernel)) cw_Mo_211 rfl rfl ⟨hw1.1, 11, _, _, hw1.2, rfl, rfl⟩ rfl (Nat.le_of_ble_eq_true rfl) h8 k
theorem t_Mo_gap_68 {d : Nat} {st : List Value} {o0 : Option Value} {o1 : Option Value} {o2 : Option Value} {o3 : Option Value} {o4 : Option Value} {x5 : Int32} {y0 : Int32} {w : qk_W} {nc ns : Nat} {Q : Option Value ⊕ Nat → qk_W → Nat → Nat → Prop}  (hc1 : qk_c2 [o0, o1, o2, o3, o4, some (.int x5)] 4 = true) (k : Ev d m_Mo_gap 46 [o0, o1, o2, o3, some (.int y0), some (.int (x5 + 1))] st w nc ns Q) : Ev d m_Mo_gap 68 [o0, o1, o2, o3, o4, some (.int x5)] (.int y0 :: st) w nc ns Q := by
  refine ev_istore d_Mo_gap_68 (by decide) hc1 ?_
  refine ev_iinc 1 d_Mo_gap_70 (by decide) rfl (by decide) rfl ?_
  refine ev_goto 46 d_Mo_gap_73 (by decide) ?_
  exact k
theorem t_Mo_gap_76 {d : Nat} {st : List Value} {v0 : Value} {o1 : Option Value} {o2 : Option Value} {o3 : Option Value} {x4 : Int32} {o5 : Option Value} {w : qk_W} {nc ns : Nat} {Q : Option Value ⊕ Nat → qk_W → Nat → Nat → Prop} (hv0 : qk_isr v0 = true)  (kt : x4 = 0 → Ev d m_Mo_gap 86 [some v0, o1, o2, o3, some (.int x4), o5] (v0 :: st) w nc ns Q) (kf : ¬ (x4 = 0) → Ev d m_Mo_gap 82 [some v0, o1, o2, o3, some (.int x4), o5] (v0 :: st) w nc ns Q) : Ev d m_Mo_gap 76 [some v0, o1, o2, o3, some (.int x4), o5] st w nc ns Q := by
  refine ev_aload_n d_Mo_gap_76 rfl hv0 ?_
  refine ev_iload d_Mo_gap_77 rfl ?_
  exact ev_if_eq 86 d_Mo_gap_79 (by decide) kt kf
theorem t_Mo_gap_82 {d : Nat} {st : List Value} {o0 : Option Value} {o1 : Option Value} {o2 : Option Value} {o3 : Option Value} {o4 : Option Value} {o5 : Option Value} {b0 : Nat} {fs2 : List Value} {w : qk_W} {nc ns : Nat} {Q : Option Value ⊕ Nat → qk_W → Nat → Nat → Prop}  (hw1 : wo w b0 11 fs2) (hk : 0 < fs2.length) (k : Ev d m_Mo_gap 90 [o0, o1, o2, o3, o4, o5] st (qk_set w b0 (.inr (11, fs2.set 0 (.int 0)))) nc ns Q) : Ev d m_Mo_gap 82 [o0, o1, o2, o3, o4, o5] (.ref b0 :: st) w nc ns Q := by
  refine ev_iconst 0 d_Mo_gap_82 (by decide) ?_
  refine ev_goto 87 d_Mo_gap_83 (by decide) ?_
  exact ev_putf d_Mo_gap_87 fl_Mo_69 rfl hw1.1 hw1.2 hk (qk_fitI _) k
theorem t_Mo_gap_86 {d : Nat} {st : List Value} {o0 : Option Value} {o1 : Option Value} {o2 : Option Value} {o3 : Option Value} {o4 : Option Value} {o5 : Option Value} {b0 : Nat} {fs2 : List Value} {w : qk_W} {nc ns : Nat} {Q : Option Value ⊕ Nat → qk_W → Nat → Nat → Prop}  (hw1 : wo w b0 11 fs2) (hk : 0 < fs2.length) (k : Ev d m_Mo_gap 90 [o0, o1, o2, o3, o4, o5] st (qk_set w b0 (.inr (11, fs2.set 0 (.int 1)))) nc ns Q) : Ev d m_Mo_gap 86 [o0, o1, o2, o3, o4, o5] (.ref b0 :: st) w nc ns Q := by
  refine ev_iconst 1 d_Mo_gap_86 (by decide) ?_
  exact ev_putf d_Mo_gap_87 fl_Mo_69 rfl hw1.1 hw1.2 hk (qk_fitI _) k
theorem t_Mo_gap_90 {d : Nat} {st : List Value} {a0 : Nat} {o1 : Option Value} {o2 : Option Value} {o3 : Option Value} {o4 : Option Value} {o5 : Option Value} {fs2 : List Value} {n4 : Int32} {w : qk_W} {nc ns : Nat} {Q : Option Value ⊕ Nat → qk_W → Nat → Nat → Prop}  (hw1 : wo w a0 11 fs2) (hf3 : fs2[0]? = some (.int n4)) (kt : n4 ≤ 0 → Ev d m_Mo_gap 101 [some (.ref a0), o1, o2, o3, o4, o5] st w nc ns Q) (kf : ¬ (n4 ≤ 0) → Ev d m_Mo_gap 97 [some (.ref a0), o1, o2, o3, o4, o5] st w nc ns Q) : Ev d m_Mo_gap 90 [some (.ref a0), o1, o2, o3, o4, o5] st w nc ns Q := by
  refine ev_aload_n d_Mo_gap_90 rfl rfl ?_
  refine ev_getf d_Mo_gap_91 fl_Mo_69 hw1.1 hw1.2 hf3 ?_
  exact ev_if_le 101 d_Mo_gap_94 (by decide) kt kf
theorem t_Mo_gap_97 {d : Nat} {o0 : Option Value} {o1 : Option Value} {o2 : Option Value} {o3 : Option Value} {o4 : Option Value} {o5 : Option Value} {w : qk_W} {nc ns : Nat} {Q : Option Value ⊕ Nat → qk_W → Nat → Nat → Prop}   (hq : Q (.inl (some (.int 0))) w nc ns) : Ev d m_Mo_gap 97 [o0, o1, o2, o3, o4, o5] [] w nc ns Q := by
  refine ev_iconst 0 d_Mo_gap_97 (by decide) ?_
  refine ev_goto 116 d_Mo_gap_98 (by decide) ?_
  exact ev_iret d_Mo_gap_116 rfl rfl hq
theorem t_Mo_gap_101 {d : Nat} {st : List Value} {o0 : Option Value} {o1 : Option Value} {o2 : Option Value} {x3 : Int32} {o4 : Option Value} {o5 : Option Value} {w : qk_W} {nc ns : Nat} {Q : Option Value ⊕ Nat → qk_W → Nat → Nat → Prop}   (kt : x3 = 0 → Ev d m_Mo_gap 112 [o0, o1, o2, some (.int x3), o4, o5] st w nc ns Q) (kf : ¬ (x3 = 0) → Ev d m_Mo_gap 105 [o0, o1, o2, some (.int x3), o4, o5] st w nc ns Q) : Ev d m_Mo_gap 101 [o0, o1, o2, some (.int x3), o4, o5] st w nc ns Q := by
  refine ev_iload_n d_Mo_gap_101 rfl ?_
  exact ev_if_eq 112 d_Mo_gap_102 (by decide) kt kf
theorem t_Mo_gap_105 {d : Nat} {a0 : Nat} {o1 : Option Value} {o2 : Option Value} {o3 : Option Value} {o4 : Option Value} {o5 : Option Value} {fs2 : List Value} {n4 : Int32} {w : qk_W} {nc ns : Nat} {Q : Option Value ⊕ Nat → qk_W → Nat → Nat → Prop}  (hw1 : wo w a0 11 fs2) (hf3 : fs2[33]? = some (.int n4)) (hq : Q (.inl (some (.int n4))) w nc ns) : Ev d m_Mo_gap 105 [some (.ref a0), o1, o2, o3, o4, o5] [] w nc ns Q := by
  refine ev_aload_n d_Mo_gap_105 rfl rfl ?_
  refine ev_getf d_Mo_gap_106 fl_Mo_208 hw1.1 hw1.2 hf3 ?_
  refine ev_goto 116 d_Mo_gap_109 (by decide) ?_
  exact ev_iret d_Mo_gap_116 rfl rfl hq
theorem t_Mo_gap_112 {d : Nat} {a0 : Nat} {o1 : Option Value} {o2 : Option Value} {o3 : Option Value} {o4 : Option Value} {o5 : Option Value} {fs2 : List Value} {n4 : Int32} {w : qk_W} {nc ns : Nat} {Q : Option Value ⊕ Nat → qk_W → Nat → Nat → Prop}  (hw1 : wo w a0 11 fs2) (hf3 : fs2[32]? = some (.int n4)) (hq : Q (.inl (some (.int n4))) w nc ns) : Ev d m_Mo_gap 112 [some (.ref a0), o1, o2, o3, o4, o5] [] w nc ns Q := by
  refine ev_aload_n d_Mo_gap_112 rfl rfl ?_
  refine ev_getf d_Mo_gap_113 fl_Mo_205 hw1.1 hw1.2 hf3 ?_
  exact ev_iret d_Mo_gap_116 rfl rfl hq
/-! Mo_ask -/
theorem d_Mo_ask_0 : decode m_Mo_ask.2.1 0 = .ok (.aload_n 0, 1) := by decide +kernel
theorem d_Mo_ask_1 : decode m_Mo_ask.2.1 1 = .ok (.iconst 0, 1) := by decide +kernel
theorem d_Mo_ask_2 : decode m_Mo_ask.2.1 2 = .ok (.putfield 69, 3) := by decide +kernel
theorem d_Mo_ask_5 : decode m_Mo_ask.2.1 5 = .ok (.iconst (-1), 1) := by decide +kernel
theorem d_Mo_ask_6 : decode m_Mo_ask.2.1 6 = .ok (.istore_n 1, 1) := by decide +kernel
theorem d_Mo_ask_7 : decode m_Mo_ask.2.1 7 = .ok (.iconst 0, 1) := by decide +kernel
theorem d_Mo_ask_8 : decode m_Mo_ask.2.1 8 = .ok (.istore_n 2, 1) := by decide +kernel
theorem d_Mo_ask_9 : decode m_Mo_ask.2.1 9 = .ok (.iconst 0, 1) := by decide +kernel
theorem d_Mo_ask_10 : decode m_Mo_ask.2.1 10 = .ok (.istore_n 3, 1) := by decide +kernel
theorem d_Mo_ask_11 : decode m_Mo_ask.2.1 11 = .ok (.iconst 0, 1) := by decide +kernel
theorem d_Mo_ask_12 : decode m_Mo_ask.2.1 12 = .ok (.istore 4, 2) := by decide +kernel
theorem d_Mo_ask_14 : decode m_Mo_ask.2.1 14 = .ok (.iload 4, 2) := by decide +kernel
theorem d_Mo_ask_16 : decode m_Mo_ask.2.1 16 = .ok (.iconst 4, 1) := by decide +kernel
theorem d_Mo_ask_17 : decode m_Mo_ask.2.1 17 = .ok (.if_icmp .ge 50, 3) := by decide +kernel
theorem d_Mo_ask_20 : decode m_Mo_ask.2.1 20 = .ok (.aload_n 0, 1) := by decide +kernel
theorem d_Mo_ask_21 : decode m_Mo_ask.2.1 21 = .ok (.iload 4, 2) := by decide +kernel
theorem d_Mo_ask_23 : decode m_Mo_ask.2.1 23 = .ok (.aload_n 0, 1) := by decide +kernel
theorem d_Mo_ask_24 : decode m_Mo_ask.2.1 24 = .ok (.getfield 63, 3) := by decide +kernel
theorem d_Mo_ask_27 : decode m_Mo_ask.2.1 27 = .ok (.iload 4, 2) := by decide +kernel
theorem d_Mo_ask_29 : decode m_Mo_ask.2.1 29 = .ok (.iaload, 1) := by decide +kernel
theorem d_Mo_ask_30 : decode m_Mo_ask.2.1 30 = .ok (.invokevirtual 211, 3) := by decide +kernel
theorem d_Mo_ask_33 : decode m_Mo_ask.2.1 33 = .ok (.ifCond .eq 28, 3) := by decide +kernel
theorem d_Mo_ask_36 : decode m_Mo_ask.2.1 36 = .ok (.iload_n 1, 1) := by decide +kernel
theorem d_Mo_ask_37 : decode m_Mo_ask.2.1 37 = .ok (.ifCond .lt 11, 3) := by decide +kernel
theorem d_Mo_ask_40 : decode m_Mo_ask.2.1 40 = .ok (.aload_n 0, 1) := by decide +kernel
theorem d_Mo_ask_41 : decode m_Mo_ask.2.1 41 = .ok (.getfield 205, 3) := by decide +kernel
theorem d_Mo_ask_44 : decode m_Mo_ask.2.1 44 = .ok (.iload_n 2, 1) := by decide +kernel
theorem d_Mo_ask_45 : decode m_Mo_ask.2.1 45 = .ok (.if_icmp .ge 16, 3) := by decide +kernel
theorem d_Mo_ask_48 : decode m_Mo_ask.2.1 48 = .ok (.iload 4, 2) := by decide +kernel
theorem d_Mo_ask_50 : decode m_Mo_ask.2.1 50 = .ok (.istore_n 1, 1) := by decide +kernel
theorem d_Mo_ask_51 : decode m_Mo_ask.2.1 51 = .ok (.aload_n 0, 1) := by decide +kernel
theorem d_Mo_ask_52 : decode m_Mo_ask.2.1 52 = .ok (.getfield 205, 3) := by decide +kernel
theorem d_Mo_ask_55 : decode m_Mo_ask.2.1 55 = .ok (.istore_n 2, 1) := by decide +kernel
theorem d_Mo_ask_56 : decode m_Mo_ask.2.1 56 = .ok (.aload_n 0, 1) := by decide +kernel
theorem d_Mo_ask_57 : decode m_Mo_ask.2.1 57 = .ok (.getfield 208, 3) := by decide +kernel
theorem d_Mo_ask_60 : decode m_Mo_ask.2.1 60 = .ok (.istore_n 3, 1) := by decide +kernel
theorem d_Mo_ask_61 : decode m_Mo_ask.2.1 61 = .ok (.iinc 4 1, 3) := by decide +kernel
theorem d_Mo_ask_64 : decode m_Mo_ask.2.1 64 = .ok (.goto (-50), 3) := by decide +kernel
theorem d_Mo_ask_67 : decode m_Mo_ask.2.1 67 = .ok (.iload_n 1, 1) := by decide +kernel
theorem d_Mo_ask_68 : decode m_Mo_ask.2.1 68 = .ok (.ifCond .ge 5, 3) := by decide +kernel
theorem d_Mo_ask_71 : decode m_Mo_ask.2.1 71 = .ok (.iconst (-1), 1) := by decide +kernel
theorem d_Mo_ask_72 : decode m_Mo_ask.2.1 72 = .ok (.ireturn, 1) := by decide +kernel
theorem d_Mo_ask_73 : decode m_Mo_ask.2.1 73 = .ok (.aload_n 0, 1) := by decide +kernel
theorem d_Mo_ask_74 : decode m_Mo_ask.2.1 74 = .ok (.invokevirtual 126, 3) := by decide +kernel
theorem d_Mo_ask_77 : decode m_Mo_ask.2.1 77 = .ok (.aload_n 0, 1) := by decide +kernel
theorem d_Mo_ask_78 : decode m_Mo_ask.2.1 78 = .ok (.iload_n 1, 1) := by decide +kernel
theorem d_Mo_ask_79 : decode m_Mo_ask.2.1 79 = .ok (.bipush 8, 2) := by decide +kernel
theorem d_Mo_ask_81 : decode m_Mo_ask.2.1 81 = .ok (.invokevirtual 123, 3) := by decide +kernel
theorem d_Mo_ask_84 : decode m_Mo_ask.2.1 84 = .ok (.aload_n 0, 1) := by decide +kernel
theorem d_Mo_ask_85 : decode m_Mo_ask.2.1 85 = .ok (.iconst 0, 1) := by decide +kernel
theorem d_Mo_ask_86 : decode m_Mo_ask.2.1 86 = .ok (.bipush 24, 2) := by decide +kernel
theorem d_Mo_ask_88 : decode m_Mo_ask.2.1 88 = .ok (.invokevirtual 123, 3) := by decide +kernel
theorem d_Mo_ask_91 : decode m_Mo_ask.2.1 91 = .ok (.aload_n 0, 1) := by decide +kernel
theorem d_Mo_ask_92 : decode m_Mo_ask.2.1 92 = .ok (.iload_n 2, 1) := by decide +kernel
theorem d_Mo_ask_93 : decode m_Mo_ask.2.1 93 = .ok (.bipush 32, 2) := by decide +kernel
theorem d_Mo_ask_95 : decode m_Mo_ask.2.1 95 = .ok (.invokevirtual 123, 3) := by decide +kernel
theorem d_Mo_ask_98 : decode m_Mo_ask.2.1 98 = .ok (.aload_n 0, 1) := by decide +kernel
theorem d_Mo_ask_99 : decode m_Mo_ask.2.1 99 = .ok (.iload_n 3, 1) := by decide +kernel
theorem d_Mo_ask_100 : decode m_Mo_ask.2.1 100 = .ok (.bipush 32, 2) := by decide +kernel
theorem d_Mo_ask_102 : decode m_Mo_ask.2.1 102 = .ok (.invokevirtual 123, 3) := by decide +kernel
theorem d_Mo_ask_105 : decode m_Mo_ask.2.1 105 = .ok (.aload_n 0, 1) := by decide +kernel
theorem d_Mo_ask_106 : decode m_Mo_ask.2.1 106 = .ok (.invokevirtual 132, 3) := by decide +kernel
theorem d_Mo_ask_109 : decode m_Mo_ask.2.1 109 = .ok (.ireturn, 1) := by decide +kernel
theorem t_Mo_ask_0 {d : Nat} {st : List Value} {a0 : Nat} {o1 : Option Value} {o2 : Option Value} {o3 : Option Value} {o4 : Option Value} {fs2 : List Value} {w : qk_W} {nc ns : Nat} {Q : Option Value ⊕ Nat → qk_W → Nat → Nat → Prop}  (hw1 : wo w a0 11 fs2) (hk : 0 < fs2.length) (k : Ev d m_Mo_ask 5 [some (.ref a0), o1, o2, o3, o4] st (qk_set w a0 (.inr (11, fs2.set 0 (.int 0)))) nc ns Q) : Ev d m_Mo_ask 0 [some (.ref a0), o1, o2, o3, o4] st w nc ns Q := by
  refine ev_aload_n d_Mo_ask_0 rfl rfl ?_
  refine ev_iconst 0 d_Mo_ask_1 (by decide) ?_
  exact ev_putf d_Mo_ask_2 fl_Mo_69 rfl hw1.1 hw1.2 hk (qk_fitI _) k
theorem t_Mo_ask_5 {d : Nat} {st : List Value} {o0 : Option Value} {o1 : Option Value} {o2 : Option Value} {o3 : Option Value} {o4 : Option Value} {w : qk_W} {nc ns : Nat} {Q : Option Value ⊕ Nat → qk_W → Nat → Nat → Prop}  (hc1 : qk_c2 [o0, o1, o2, o3, o4] 1 = true) (k : Ev d m_Mo_ask 14 [o0, some (.int (-1)), some (.int 0), some (.int 0), some (.int 0)] st w nc ns Q) : Ev d m_Mo_ask 5 [o0, o1, o2, o3, o4] st w nc ns Q := by
  refine ev_iconst (-1) d_Mo_ask_5 (by decide) ?_
  refine ev_istore_n d_Mo_ask_6 (by decide) hc1 ?_
  refine ev_iconst 0 d_Mo_ask_7 (by decide) ?_
  refine ev_istore_n d_Mo_ask_8 (by decide) rfl ?_
  refine ev_iconst 0 d_Mo_ask_9 (by decide) ?_
  refine ev_istore_n d_Mo_ask_10 (by decide) rfl ?_
  refine ev_iconst 0 d_Mo_ask_11 (by decide) ?_
  refine ev_istore d_Mo_ask_12 (by decide) rfl ?_
  exact k
theorem t_Mo_ask_14 {d : Nat} {st : List Value} {o0 : Option Value} {o1 : Option Value} {o2 : Option Value} {o3 : Option Value} {x4 : Int32} {w : qk_W} {nc ns : Nat} {Q : Option Value ⊕ Nat → qk_W → Nat → Nat → Prop}   (kt : (4 : Int32) ≤ x4 → Ev d m_Mo_ask 67 [o0, o1, o2, o3, some (.int x4)] st w nc ns Q) (kf : ¬ ((4 : Int32) ≤ x4) → Ev d m_Mo_ask 20 [o0, o1, o2, o3, some (.int x4)] st w nc ns Q) : Ev d m_Mo_ask 14 [o0, o1, o2, o3, some (.int x4)] st w nc ns Q := by
  refine ev_iload d_Mo_ask_14 rfl ?_
  refine ev_iconst 4 d_Mo_ask_16 (by decide) ?_
  exact ev_icmp_ge 67 d_Mo_ask_17 (by decide) kt kf
theorem t_Mo_ask_20 {d : Nat} {st : List Value} {a0 : Nat} {o1 : Option Value} {o2 : Option Value} {o3 : Option Value} {x4 : Int32} {fs2 : List Value} {c4 : Nat} {n6 : Nat} {f7 : Nat → Int32} {w : qk_W} {nc ns : Nat} {Q : Option Value ⊕ Nat → qk_W → Nat → Nat → Prop}  (hw1 : wo w a0 11 fs2) (hf3 : fs2[20]? = some (.ref c4)) (ha5 : wi w c4 n6 f7) (hi8 : vp_in x4 n6) (h8 : (st.map fun v => Value.category v).sum ≤ 8) (k : Ev d m_Mo_isGap 0 [some (.ref a0), some (.int x4), some (.int (f7 x4.toNatClampNeg)), none, none] [] w nc ns (fun r w1 nc1 ns1 => match r with | .inl v => Ev (d + 1) m_Mo_ask 33 [some (.ref a0), o1, o2, o3, some (.int x4)] (v.toList ++ st) w1 nc1 ns1 Q | .inr x => Q (.inr x) w1 nc1 ns1)) : Ev (d + 1) m_Mo_ask 20 [some (.ref a0), o1, o2, o3, some (.int x4)] st w nc ns Q := by
  refine ev_aload_n d_Mo_ask_20 rfl rfl ?_
  refine ev_iload d_Mo_ask_21 rfl ?_
  refine ev_aload_n d_Mo_ask_23 rfl rfl ?_
  refine ev_getf d_Mo_ask_24 fl_Mo_63 hw1.1 hw1.2 hf3 ?_
  refine ev_iload d_Mo_ask_27 rfl ?_
  refine ev_iald d_Mo_ask_29 ha5 hi8 ?_
  exact ev_call (M' := m_Mo_isGap) (As := [.ref a0, .int x4, .int (f7 x4.toNatClampNeg)]) (st := st) d_Mo_ask_30 i_Mo_isGap (fun h => absurd h (by decide +kernel)) cw_Mo_211 rfl rfl ⟨hw1.1, 11, _, _, hw1.2, rfl, rfl⟩ rfl (Nat.le_of_ble_eq_true rfl) h8 k
theorem t_Mo_ask_33 {d : Nat} {st : List Value} {o0 : Option Value} {o1 : Option Value} {o2 : Option Value} {o3 : Option Value} {o4 : Option Value} {y0 : Int32} {w : qk_W} {nc ns : Nat} {Q : Option Value ⊕ Nat → qk_W → Nat → Nat → Prop}   (kt : y0 = 0 → Ev d m_Mo_ask 61 [o0, o1, o2, o3, o4] st w nc ns Q) (kf : ¬ (y0 = 0) → Ev d m_Mo_ask 36 [o0, o1, o2, o3, o4] st w nc ns Q) : Ev d m_Mo_ask 33 [o0, o1, o2, o3, o4] (.int y0 :: st) w nc ns Q := by
  exact ev_if_eq 61 d_Mo_ask_33 (by decide) kt kf
theorem t_Mo_ask_36 {d : Nat} {st : List Value} {o0 : Option Value} {x1 : Int32} {o2 : Option Value} {o3 : Option Value} {o4 : Option Value} {w : qk_W} {nc ns : Nat} {Q : Option Value ⊕ Nat → qk_W → Nat → Nat → Prop}   (kt : x1 < 0 → Ev d m_Mo_ask 48 [o0, some (.int x1), o2, o3, o4] st w nc ns Q) (kf : ¬ (x1 < 0) → Ev d m_Mo_ask 40 [o0, some (.int x1), o2, o3, o4] st w nc ns Q) : Ev d m_Mo_ask 36 [o0, some (.int x1), o2, o3, o4] st w nc ns Q := by
  refine ev_iload_n d_Mo_ask_36 rfl ?_
  exact ev_if_lt 48 d_Mo_ask_37 (by decide) kt kf
theorem t_Mo_ask_40 {d : Nat} {st : List Value} {a0 : Nat} {o1 : Option Value} {x2 : Int32} {o3 : Option Value} {o4 : Option Value} {fs2 : List Value} {n4 : Int32} {w : qk_W} {nc ns : Nat} {Q : Option Value ⊕ Nat → qk_W → Nat → Nat → Prop}  (hw1 : wo w a0 11 fs2) (hf3 : fs2[32]? = some (.int n4)) (kt : x2 ≤ n4 → Ev d m_Mo_ask 61 [some (.ref a0), o1, some (.int x2), o3, o4] st w nc ns Q) (kf : ¬ (x2 ≤ n4) → Ev d m_Mo_ask 48 [some (.ref a0), o1, some (.int x2), o3, o4] st w nc ns Q) : Ev d m_Mo_ask 40 [some (.ref a0), o1, some (.int x2), o3, o4] st w nc ns Q := by
  refine ev_aload_n d_Mo_ask_40 rfl rfl ?_
  refine ev_getf d_Mo_ask_41 fl_Mo_205 hw1.1 hw1.2 hf3 ?_
  refine ev_iload_n d_Mo_ask_44 rfl ?_
  exact ev_icmp_ge 61 d_Mo_ask_45 (by decide) kt kf
theorem t_Mo_ask_48 {d : Nat} {st : List Value} {a0 : Nat} {o1 : Option Value} {o2 : Option Value} {o3 : Option Value} {x4 : Int32} {fs3 : List Value} {n5 : Int32} {n9 : Int32} {w : qk_W} {nc ns : Nat} {Q : Option Value ⊕ Nat → qk_W → Nat → Nat → Prop}  (hc1 : qk_c2 [some (.ref a0), o1, o2, o3, some (.int x4)] 1 = true) (hw2 : wo w a0 11 fs3) (hf4 : fs3[32]? = some (.int n5)) (hf8 : fs3[33]? = some (.int n9)) (k : Ev d m_Mo_ask 14 [some (.ref a0), some (.int x4), some (.int n5), some (.int n9), some (.int (x4 + 1))] st w nc ns Q) : Ev d m_Mo_ask 48 [some (.ref a0), o1, o2, o3, some (.int x4)] st w nc ns Q := by
  refine ev_iload d_Mo_ask_48 rfl ?_
  refine ev_istore_n d_Mo_ask_50 (by decide) hc1 ?_
  refine ev_aload_n d_Mo_ask_51 rfl rfl ?_
  refine ev_getf d_Mo_ask_52 fl_Mo_205 hw2.1 hw2.2 hf4 ?_
  refine ev_istore_n d_Mo_ask_55 (by decide) rfl ?_
  refine ev_aload_n d_Mo_ask_56 rfl rfl ?_
  refine ev_getf d_Mo_ask_57 fl_Mo_208 hw2.1 hw2.2 hf8 ?_
  refine ev_istore_n d_Mo_ask_60 (by decide) rfl ?_
  refine ev_iinc 1 d_Mo_ask_61 (by decide) rfl (by decide) rfl ?_
  refine ev_goto 14 d_Mo_ask_64 (by decide) ?_
  exact k
theorem t_Mo_ask_61 {d : Nat} {st : List Value} {o0 : Option Value} {o1 : Option Value} {o2 : Option Value} {o3 : Option Value} {x4 : Int32} {w : qk_W} {nc ns : Nat} {Q : Option Value ⊕ Nat → qk_W → Nat → Nat → Prop}  (hc1 : qk_c2 [o0, o1, o2, o3, some (.int x4)] 4 = true) (k : Ev d m_Mo_ask 14 [o0, o1, o2, o3, some (.int (x4 + 1))] st w nc ns Q) : Ev d m_Mo_ask 61 [o0, o1, o2, o3, some (.int x4)] st w nc ns Q := by
  refine ev_iinc 1 d_Mo_ask_61 (by decide) rfl (by decide) hc1 ?_
  refine ev_goto 14 d_Mo_ask_64 (by decide) ?_
  exact k
theorem t_Mo_ask_67 {d : Nat} {st : List Value} {o0 : Option Value} {x1 : Int32} {o2 : Option Value} {o3 : Option Value} {o4 : Option Value} {w : qk_W} {nc ns : Nat} {Q : Option Value ⊕ Nat → qk_W → Nat → Nat → Prop}   (kt : 0 ≤ x1 → Ev d m_Mo_ask 73 [o0, some (.int x1), o2, o3, o4] st w nc ns Q) (kf : ¬ (0 ≤ x1) → Ev d m_Mo_ask 71 [o0, some (.int x1), o2, o3, o4] st w nc ns Q) : Ev d m_Mo_ask 67 [o0, some (.int x1), o2, o3, o4] st w nc ns Q := by
  refine ev_iload_n d_Mo_ask_67 rfl ?_
  exact ev_if_ge 73 d_Mo_ask_68 (by decide) kt kf
theorem t_Mo_ask_71 {d : Nat} {o0 : Option Value} {o1 : Option Value} {o2 : Option Value} {o3 : Option Value} {o4 : Option Value} {w : qk_W} {nc ns : Nat} {Q : Option Value ⊕ Nat → qk_W → Nat → Nat → Prop}   (hq : Q (.inl (some (.int (-1)))) w nc ns) : Ev d m_Mo_ask 71 [o0, o1, o2, o3, o4] [] w nc ns Q := by
  refine ev_iconst (-1) d_Mo_ask_71 (by decide) ?_
  exact ev_iret d_Mo_ask_72 rfl rfl hq
theorem t_Mo_ask_73 {d : Nat} {st : List Value} {a0 : Nat} {o1 : Option Value} {o2 : Option Value} {o3 : Option Value} {o4 : Option Value} {fsb : List Value} {w : qk_W} {nc ns : Nat} {Q : Option Value ⊕ Nat → qk_W → Nat → Nat → Prop}  (hb : wo w a0 11 fsb) (h8 : (st.map fun v => Value.category v).sum ≤ 8) (k : Ev d m_Mo_begin 0 [some (.ref a0), none] [] w nc ns (fun r w1 nc1 ns1 => match r with | .inl v => Ev (d + 1) m_Mo_ask 77 [some (.ref a0), o1, o2, o3, o4] (v.toList ++ st) w1 nc1 ns1 Q | .inr x => Q (.inr x) w1 nc1 ns1)) : Ev (d + 1) m_Mo_ask 73 [some (.ref a0), o1, o2, o3, o4] st w nc ns Q := by
  refine ev_aload_n d_Mo_ask_73 rfl rfl ?_
  exact ev_call (M' := m_Mo_begin) (As := [.ref a0]) (st := st) d_Mo_ask_74 i_Mo_begin (fun h => absurd h (by decide +kernel)) cw_Mo_126 rfl rfl ⟨hb.1, 11, _, _, hb.2, rfl, rfl⟩ rfl (Nat.le_of_ble_eq_true rfl) h8 k
theorem t_Mo_ask_77 {d : Nat} {st : List Value} {a0 : Nat} {x1 : Int32} {o2 : Option Value} {o3 : Option Value} {o4 : Option Value} {fsb : List Value} {w : qk_W} {nc ns : Nat} {Q : Option Value ⊕ Nat → qk_W → Nat → Nat → Prop}  (hb : wo w a0 11 fsb) (h8 : (st.map fun v => Value.category v).sum ≤ 8) (k : Ev d m_Mo_put 0 [some (.ref a0), some (.int x1), some (.int 8), none, none] [] w nc ns (fun r w1 nc1 ns1 => match r with | .inl v => Ev (d + 1) m_Mo_ask 84 [some (.ref a0), some (.int x1), o2, o3, o4] (v.toList ++ st) w1 nc1 ns1 Q | .inr x => Q (.inr x) w1 nc1 ns1)) : Ev (d + 1) m_Mo_ask 77 [some (.ref a0), some (.int x1), o2, o3, o4] st w nc ns Q := by
  refine ev_aload_n d_Mo_ask_77 rfl rfl ?_
  refine ev_iload_n d_Mo_ask_78 rfl ?_
  refine ev_bipush 8 d_Mo_ask_79 (by decide) ?_
  exact ev_call (M' := m_Mo_put) (As := [.ref a0, .int x1, .int 8]) (st := st) d_Mo_ask_81 i_Mo_put (fun h => absurd h (by decide +kernel)) cw_Mo_123 rfl rfl ⟨hb.1, 11, _, _, hb.2, rfl, rfl⟩ rfl (Nat.le_of_ble_eq_true rfl) h8 k
theorem t_Mo_ask_84 {d : Nat} {st : List Value} {a0 : Nat} {o1 : Option Value} {o2 : Option Value} {o3 : Option Value} {o4 : Option Value} {fsb : List Value} {w : qk_W} {nc ns : Nat} {Q : Option Value ⊕ Nat → qk_W → Nat → Nat → Prop}  (hb : wo w a0 11 fsb) (h8 : (st.map fun v => Value.category v).sum ≤ 8) (k : Ev d m_Mo_put 0 [some (.ref a0), some (.int 0), some (.int 24), none, none] [] w nc ns (fun r w1 nc1 ns1 => match r with | .inl v => Ev (d + 1) m_Mo_ask 91 [some (.ref a0), o1, o2, o3, o4] (v.toList ++ st) w1 nc1 ns1 Q | .inr x => Q (.inr x) w1 nc1 ns1)) : Ev (d + 1) m_Mo_ask 84 [some (.ref a0), o1, o2, o3, o4] st w nc ns Q := by
  refine ev_aload_n d_Mo_ask_84 rfl rfl ?_
  refine ev_iconst 0 d_Mo_ask_85 (by decide) ?_
  refine ev_bipush 24 d_Mo_ask_86 (by decide) ?_
  exact ev_call (M' := m_Mo_put) (As := [.ref a0, .int 0, .int 24]) (st := st) d_Mo_ask_88 i_Mo_put (fun h => absurd h (by decide +kernel)) cw_Mo_123 rfl rfl ⟨hb.1, 11, _, _, hb.2, rfl, rfl⟩ rfl (Nat.le_of_ble_eq_true rfl) h8 k
theorem t_Mo_ask_91 {d : Nat} {st : List Value} {a0 : Nat} {o1 : Option Value} {x2 : Int32} {o3 : Option Value} {o4 : Option Value} {fsb : List Value} {w : qk_W} {nc ns : Nat} {Q : Option Value ⊕ Nat → qk_W → Nat → Nat → Prop}  (hb : wo w a0 11 fsb) (h8 : (st.map fun v => Value.category v).sum ≤ 8) (k : Ev d m_Mo_put 0 [some (.ref a0), some (.int x2), some (.int 32), none, none] [] w nc ns (fun r w1 nc1 ns1 => match r with | .inl v => Ev (d + 1) m_Mo_ask 98 [some (.ref a0), o1, some (.int x2), o3, o4] (v.toList ++ st) w1 nc1 ns1 Q | .inr x => Q (.inr x) w1 nc1 ns1)) : Ev (d + 1) m_Mo_ask 91 [some (.ref a0), o1, some (.int x2), o3, o4] st w nc ns Q := by
  refine ev_aload_n d_Mo_ask_91 rfl rfl ?_
  refine ev_iload_n d_Mo_ask_92 rfl ?_
  refine ev_bipush 32 d_Mo_ask_93 (by decide) ?_
  exact ev_call (M' := m_Mo_put) (As := [.ref a0, .int x2, .int 32]) (st := st) d_Mo_ask_95 i_Mo_put (fun h => absurd h (by decide +kernel)) cw_Mo_123 rfl rfl ⟨hb.1, 11, _, _, hb.2, rfl, rfl⟩ rfl (Nat.le_of_ble_eq_true rfl) h8 k
theorem t_Mo_ask_98 {d : Nat} {st : List Value} {a0 : Nat} {o1 : Option Value} {o2 : Option Value} {x3 : Int32} {o4 : Option Value} {fsb : List Value} {w : qk_W} {nc ns : Nat} {Q : Option Value ⊕ Nat → qk_W → Nat → Nat → Prop}  (hb : wo w a0 11 fsb) (h8 : (st.map fun v => Value.category v).sum ≤ 8) (k : Ev d m_Mo_put 0 [some (.ref a0), some (.int x3), some (.int 32), none, none] [] w nc ns (fun r w1 nc1 ns1 => match r with | .inl v => Ev (d + 1) m_Mo_ask 105 [some (.ref a0), o1, o2, some (.int x3), o4] (v.toList ++ st) w1 nc1 ns1 Q | .inr x => Q (.inr x) w1 nc1 ns1)) : Ev (d + 1) m_Mo_ask 98 [some (.ref a0), o1, o2, some (.int x3), o4] st w nc ns Q := by
  refine ev_aload_n d_Mo_ask_98 rfl rfl ?_
  refine ev_iload_n d_Mo_ask_99 rfl ?_
  refine ev_bipush 32 d_Mo_ask_100 (by decide) ?_
  exact ev_call (M' := m_Mo_put) (As := [.ref a0, .int x3, .int 32]) (st := st) d_Mo_ask_102 i_Mo_put (fun h => absurd h (by decide +kernel)) cw_Mo_123 rfl rfl ⟨hb.1, 11, _, _, hb.2, rfl, rfl⟩ rfl (Nat.le_of_ble_eq_true rfl) h8 k
theorem t_Mo_ask_105 {d : Nat} {st : List Value} {a0 : Nat} {o1 : Option Value} {o2 : Option Value} {o3 : Option Value} {o4 : Option Value} {fsb : List Value} {w : qk_W} {nc ns : Nat} {Q : Option Value ⊕ Nat → qk_W → Nat → Nat → Prop}  (hb : wo w a0 11 fsb) (h8 : (st.map fun v => Value.category v).sum ≤ 8) (k : Ev d m_Mo_end 0 [some (.ref a0)] [] w nc ns (fun r w1 nc1 ns1 => match r with | .inl v => Ev (d + 1) m_Mo_ask 109 [some (.ref a0), o1, o2, o3, o4] (v.toList ++ st) w1 nc1 ns1 Q | .inr x => Q (.inr x) w1 nc1 ns1)) : Ev (d + 1) m_Mo_ask 105 [some (.ref a0), o1, o2, o3, o4] st w nc ns Q := by
  refine ev_aload_n d_Mo_ask_105 rfl rfl ?_
  exact ev_call (M' := m_Mo_end) (As := [.ref a0]) (st := st) d_Mo_ask_106 i_Mo_end (fun h => absurd h (by decide +kernel)) cw_Mo_132 rfl rfl ⟨hb.1, 11, _, _, hb.2, rfl, rfl⟩ rfl (Nat.le_of_ble_eq_true rfl) h8 k
theorem t_Mo_ask_109 {d : Nat} {o0 : Option Value} {o1 : Option Value} {o2 : Option Value} {o3 : Option Value} {o4 : Option Value} {y0 : Int32} {w : qk_W} {nc ns : Nat} {Q : Option Value ⊕ Nat → qk_W → Nat → Nat → Prop}   (hq : Q (.inl (some (.int y0))) w nc ns) : Ev d m_Mo_ask 109 [o0, o1, o2, o3, o4] [.int y0] w nc ns Q := by
  exact ev_iret d_Mo_ask_109 rfl rfl hq
/-! Mo_count -/
theorem d_Mo_count_0 : decode m_Mo_count.2.1 0 = .ok (.aload_n 0, 1) := by decide +kernel
theorem d_Mo_count_1 : decode m_Mo_count.2.1 1 = .ok (.iload_n 1, 1) := by decide +kernel
theorem d_Mo_count_2 : decode m_Mo_count.2.1 2 = .ok (.invokestatic 101, 3) := by decide +kernel
theorem d_Mo_count_5 : decode m_Mo_count.2.1 5 = .ok (.ifCond .ne 7, 3) := by decide +kernel
theorem d_Mo_count_8 : decode m_Mo_count.2.1 8 = .ok (.iconst 1, 1) := by decide +kernel
theorem d_Mo_count_9 : decode m_Mo_count.2.1 9 = .ok (.goto 18, 3) := by decide +kernel
theorem d_Mo_count_12 : decode m_Mo_count.2.1 12 = .ok (.iload_n 2, 1) := by decide +kernel
theorem d_Mo_count_13 : decode m_Mo_count.2.1 13 = .ok (.ifCond .lt 9, 3) := by decide +kernel
theorem d_Mo_count_16 : decode m_Mo_count.2.1 16 = .ok (.iload_n 2, 1) := by decide +kernel
theorem d_Mo_count_17 : decode m_Mo_count.2.1 17 = .ok (.bipush 6, 2) := by decide +kernel
theorem d_Mo_count_19 : decode m_Mo_count.2.1 19 = .ok (.if_icmp .le 7, 3) := by decide +kernel
theorem d_Mo_count_22 : decode m_Mo_count.2.1 22 = .ok (.iconst 2, 1) := by decide +kernel
theorem d_Mo_count_23 : decode m_Mo_count.2.1 23 = .ok (.goto 4, 3) := by decide +kernel
theorem d_Mo_count_26 : decode m_Mo_count.2.1 26 = .ok (.iconst 0, 1) := by decide +kernel
theorem d_Mo_count_27 : decode m_Mo_count.2.1 27 = .ok (.putfield 69, 3) := by decide +kernel
theorem d_Mo_count_30 : decode m_Mo_count.2.1 30 = .ok (.aload_n 0, 1) := by decide +kernel
theorem d_Mo_count_31 : decode m_Mo_count.2.1 31 = .ok (.getfield 69, 3) := by decide +kernel
theorem d_Mo_count_34 : decode m_Mo_count.2.1 34 = .ok (.ifCond .le 5, 3) := by decide +kernel
theorem d_Mo_count_37 : decode m_Mo_count.2.1 37 = .ok (.iconst 0, 1) := by decide +kernel
theorem d_Mo_count_38 : decode m_Mo_count.2.1 38 = .ok (.ireturn, 1) := by decide +kernel
theorem d_Mo_count_39 : decode m_Mo_count.2.1 39 = .ok (.iconst 0, 1) := by decide +kernel
theorem d_Mo_count_40 : decode m_Mo_count.2.1 40 = .ok (.istore_n 3, 1) := by decide +kernel
theorem d_Mo_count_41 : decode m_Mo_count.2.1 41 = .ok (.aload_n 0, 1) := by decide +kernel
theorem d_Mo_count_42 : decode m_Mo_count.2.1 42 = .ok (.iload_n 1, 1) := by decide +kernel
theorem d_Mo_count_43 : decode m_Mo_count.2.1 43 = .ok (.invokevirtual 91, 3) := by decide +kernel
theorem d_Mo_count_46 : decode m_Mo_count.2.1 46 = .ok (.istore 4, 2) := by decide +kernel
theorem d_Mo_count_48 : decode m_Mo_count.2.1 48 = .ok (.iload 4, 2) := by decide +kernel
theorem d_Mo_count_50 : decode m_Mo_count.2.1 50 = .ok (.aload_n 0, 1) := by decide +kernel
theorem d_Mo_count_51 : decode m_Mo_count.2.1 51 = .ok (.getfield 88, 3) := by decide +kernel
theorem d_Mo_count_54 : decode m_Mo_count.2.1 54 = .ok (.if_icmp .ge 28, 3) := by decide +kernel
theorem d_Mo_count_57 : decode m_Mo_count.2.1 57 = .ok (.iload_n 3, 1) := by decide +kernel
theorem d_Mo_count_58 : decode m_Mo_count.2.1 58 = .ok (.aload_n 0, 1) := by decide +kernel
theorem d_Mo_count_59 : decode m_Mo_count.2.1 59 = .ok (.getfield 27, 3) := by decide +kernel
theorem d_Mo_count_62 : decode m_Mo_count.2.1 62 = .ok (.iload 4, 2) := by decide +kernel
theorem d_Mo_count_64 : decode m_Mo_count.2.1 64 = .ok (.iaload, 1) := by decide +kernel
theorem d_Mo_count_65 : decode m_Mo_count.2.1 65 = .ok (.iload_n 1, 1) := by decide +kernel
theorem d_Mo_count_66 : decode m_Mo_count.2.1 66 = .ok (.if_icmp .ne 7, 3) := by decide +kernel
theorem d_Mo_count_69 : decode m_Mo_count.2.1 69 = .ok (.iconst 1, 1) := by decide +kernel
theorem d_Mo_count_70 : decode m_Mo_count.2.1 70 = .ok (.goto 4, 3) := by decide +kernel
theorem d_Mo_count_73 : decode m_Mo_count.2.1 73 = .ok (.iconst 0, 1) := by decide +kernel
theorem d_Mo_count_74 : decode m_Mo_count.2.1 74 = .ok (.iadd, 1) := by decide +kernel
theorem d_Mo_count_75 : decode m_Mo_count.2.1 75 = .ok (.istore_n 3, 1) := by decide +kernel
theorem d_Mo_count_76 : decode m_Mo_count.2.1 76 = .ok (.iinc 4 1, 3) := by decide +kernel
theorem d_Mo_count_79 : decode m_Mo_count.2.1 79 = .ok (.goto (-31), 3) := by decide +kernel
theorem d_Mo_count_82 : decode m_Mo_count.2.1 82 = .ok (.iconst 0, 1) := by decide +kernel
theorem d_Mo_count_83 : decode m_Mo_count.2.1 83 = .ok (.istore 4, 2) := by decide +kernel
theorem d_Mo_count_85 : decode m_Mo_count.2.1 85 = .ok (.iconst 0, 1) := by decide +kernel
theorem d_Mo_count_86 : decode m_Mo_count.2.1 86 = .ok (.istore 5, 2) := by decide +kernel
theorem d_Mo_count_88 : decode m_Mo_count.2.1 88 = .ok (.iconst 0, 1) := by decide +kernel
theorem d_Mo_count_89 : decode m_Mo_count.2.1 89 = .ok (.istore 6, 2) := by decide +kernel
theorem d_Mo_count_91 : decode m_Mo_count.2.1 91 = .ok (.iload 6, 2) := by decide +kernel
theorem d_Mo_count_93 : decode m_Mo_count.2.1 93 = .ok (.ldc 46, 2) := by decide +kernel
theorem d_Mo_count_95 : decode m_Mo_count.2.1 95 = .ok (.if_icmp .ge 54, 3) := by decide +kernel
theorem d_Mo_count_98 : decode m_Mo_count.2.1 98 = .ok (.iload 4, 2) := by decide +kernel
theorem d_Mo_count_100 : decode m_Mo_count.2.1 100 = .ok (.aload_n 0, 1) := by decide +kernel
theorem d_Mo_count_101 : decode m_Mo_count.2.1 101 = .ok (.getfield 43, 3) := by decide +kernel
theorem d_Mo_count_104 : decode m_Mo_count.2.1 104 = .ok (.iload_n 1, 1) := by decide +kernel
theorem d_Mo_count_105 : decode m_Mo_count.2.1 105 = .ok (.ldc 46, 2) := by decide +kernel
theorem d_Mo_count_107 : decode m_Mo_count.2.1 107 = .ok (.imul, 1) := by decide +kernel
theorem d_Mo_count_108 : decode m_Mo_count.2.1 108 = .ok (.iload 6, 2) := by decide +kernel
theorem d_Mo_count_110 : decode m_Mo_count.2.1 110 = .ok (.iadd, 1) := by decide +kernel
theorem d_Mo_count_111 : decode m_Mo_count.2.1 111 = .ok (.baload, 1) := by decide +kernel
theorem d_Mo_count_112 : decode m_Mo_count.2.1 112 = .ok (.ifCond .eq 7, 3) := by decide +kernel
theorem d_Mo_count_115 : decode m_Mo_count.2.1 115 = .ok (.iconst 1, 1) := by decide +kernel
theorem d_Mo_count_116 : decode m_Mo_count.2.1 116 = .ok (.goto 4, 3) := by decide +kernel
theorem d_Mo_count_119 : decode m_Mo_count.2.1 119 = .ok (.iconst 0, 1) := by decide +kernel
theorem d_Mo_count_120 : decode m_Mo_count.2.1 120 = .ok (.iadd, 1) := by decide +kernel
theorem d_Mo_count_121 : decode m_Mo_count.2.1 121 = .ok (.istore 4, 2) := by decide +kernel
theorem d_Mo_count_123 : decode m_Mo_count.2.1 123 = .ok (.iload 5, 2) := by decide +kernel
theorem d_Mo_count_125 : decode m_Mo_count.2.1 125 = .ok (.aload_n 0, 1) := by decide +kernel
theorem d_Mo_count_126 : decode m_Mo_count.2.1 126 = .ok (.iload_n 1, 1) := by decide +kernel
theorem d_Mo_count_127 : decode m_Mo_count.2.1 127 = .ok (.iload 6, 2) := by decide +kernel
theorem d_Mo_count_129 : decode m_Mo_count.2.1 129 = .ok (.invokevirtual 202, 3) := by decide +kernel
theorem d_Mo_count_132 : decode m_Mo_count.2.1 132 = .ok (.ifCond .eq 7, 3) := by decide +kernel
theorem d_Mo_count_135 : decode m_Mo_count.2.1 135 = .ok (.iconst 1, 1) := by decide +kernel
theorem d_Mo_count_136 : decode m_Mo_count.2.1 136 = .ok (.goto 4, 3) := by decide +kernel
theorem d_Mo_count_139 : decode m_Mo_count.2.1 139 = .ok (.iconst 0, 1) := by decide +kernel
theorem d_Mo_count_140 : decode m_Mo_count.2.1 140 = .ok (.iadd, 1) := by decide +kernel
theorem d_Mo_count_141 : decode m_Mo_count.2.1 141 = .ok (.istore 5, 2) := by decide +kernel
theorem d_Mo_count_143 : decode m_Mo_count.2.1 143 = .ok (.iinc 6 1, 3) := by decide +kernel
theorem d_Mo_count_146 : decode m_Mo_count.2.1 146 = .ok (.goto (-55), 3) := by decide +kernel
theorem d_Mo_count_149 : decode m_Mo_count.2.1 149 = .ok (.iload_n 2, 1) := by decide +kernel
theorem d_Mo_count_150 : decode m_Mo_count.2.1 150 = .ok (.ifCond .ne 12, 3) := by decide +kernel
theorem d_Mo_count_153 : decode m_Mo_count.2.1 153 = .ok (.aload_n 0, 1) := by decide +kernel
theorem d_Mo_count_154 : decode m_Mo_count.2.1 154 = .ok (.getfield 14, 3) := by decide +kernel
theorem d_Mo_count_157 : decode m_Mo_count.2.1 157 = .ok (.iload_n 1, 1) := by decide +kernel
theorem d_Mo_count_158 : decode m_Mo_count.2.1 158 = .ok (.iaload, 1) := by decide +kernel
theorem d_Mo_count_159 : decode m_Mo_count.2.1 159 = .ok (.goto 72, 3) := by decide +kernel
theorem d_Mo_count_162 : decode m_Mo_count.2.1 162 = .ok (.iload_n 2, 1) := by decide +kernel
theorem d_Mo_count_163 : decode m_Mo_count.2.1 163 = .ok (.iconst 1, 1) := by decide +kernel
theorem d_Mo_count_164 : decode m_Mo_count.2.1 164 = .ok (.if_icmp .ne 11, 3) := by decide +kernel
theorem d_Mo_count_167 : decode m_Mo_count.2.1 167 = .ok (.aload_n 0, 1) := by decide +kernel
theorem d_Mo_count_168 : decode m_Mo_count.2.1 168 = .ok (.iload_n 1, 1) := by decide +kernel
theorem d_Mo_count_169 : decode m_Mo_count.2.1 169 = .ok (.invokevirtual 129, 3) := by decide +kernel
theorem d_Mo_count_172 : decode m_Mo_count.2.1 172 = .ok (.goto 59, 3) := by decide +kernel
theorem d_Mo_count_175 : decode m_Mo_count.2.1 175 = .ok (.iload_n 2, 1) := by decide +kernel
theorem d_Mo_count_176 : decode m_Mo_count.2.1 176 = .ok (.iconst 2, 1) := by decide +kernel
theorem d_Mo_count_177 : decode m_Mo_count.2.1 177 = .ok (.if_icmp .ne 7, 3) := by decide +kernel
theorem d_Mo_count_180 : decode m_Mo_count.2.1 180 = .ok (.iload_n 3, 1) := by decide +kernel
theorem d_Mo_count_181 : decode m_Mo_count.2.1 181 = .ok (.goto 50, 3) := by decide +kernel
theorem d_Mo_count_184 : decode m_Mo_count.2.1 184 = .ok (.iload_n 2, 1) := by decide +kernel
theorem d_Mo_count_185 : decode m_Mo_count.2.1 185 = .ok (.iconst 3, 1) := by decide +kernel
theorem d_Mo_count_186 : decode m_Mo_count.2.1 186 = .ok (.if_icmp .ne 19, 3) := by decide +kernel
theorem d_Mo_count_189 : decode m_Mo_count.2.1 189 = .ok (.aload_n 0, 1) := by decide +kernel
theorem d_Mo_count_190 : decode m_Mo_count.2.1 190 = .ok (.getfield 14, 3) := by decide +kernel
theorem d_Mo_count_193 : decode m_Mo_count.2.1 193 = .ok (.iload_n 1, 1) := by decide +kernel
theorem d_Mo_count_194 : decode m_Mo_count.2.1 194 = .ok (.iaload, 1) := by decide +kernel
theorem d_Mo_count_195 : decode m_Mo_count.2.1 195 = .ok (.aload_n 0, 1) := by decide +kernel
theorem d_Mo_count_196 : decode m_Mo_count.2.1 196 = .ok (.getfield 17, 3) := by decide +kernel
theorem d_Mo_count_199 : decode m_Mo_count.2.1 199 = .ok (.iload_n 1, 1) := by decide +kernel
theorem d_Mo_count_200 : decode m_Mo_count.2.1 200 = .ok (.iaload, 1) := by decide +kernel
theorem d_Mo_count_201 : decode m_Mo_count.2.1 201 = .ok (.isub, 1) := by decide +kernel
theorem d_Mo_count_202 : decode m_Mo_count.2.1 202 = .ok (.goto 29, 3) := by decide +kernel
theorem d_Mo_count_205 : decode m_Mo_count.2.1 205 = .ok (.iload_n 2, 1) := by decide +kernel
theorem d_Mo_count_206 : decode m_Mo_count.2.1 206 = .ok (.iconst 4, 1) := by decide +kernel
theorem d_Mo_count_207 : decode m_Mo_count.2.1 207 = .ok (.if_icmp .ne 8, 3) := by decide +kernel
theorem d_Mo_count_210 : decode m_Mo_count.2.1 210 = .ok (.iload 4, 2) := by decide +kernel
theorem d_Mo_count_212 : decode m_Mo_count.2.1 212 = .ok (.goto 19, 3) := by decide +kernel
theorem d_Mo_count_215 : decode m_Mo_count.2.1 215 = .ok (.iload_n 2, 1) := by decide +kernel
theorem d_Mo_count_216 : decode m_Mo_count.2.1 216 = .ok (.iconst 5, 1) := by decide +kernel
theorem d_Mo_count_217 : decode m_Mo_count.2.1 217 = .ok (.if_icmp .ne 8, 3) := by decide +kernel
theorem d_Mo_count_220 : decode m_Mo_count.2.1 220 = .ok (.iload 5, 2) := by decide +kernel
theorem d_Mo_count_222 : decode m_Mo_count.2.1 222 = .ok (.goto 9, 3) := by decide +kernel
theorem d_Mo_count_225 : decode m_Mo_count.2.1 225 = .ok (.aload_n 0, 1) := by decide +kernel
theorem d_Mo_count_226 : decode m_Mo_count.2.1 226 = .ok (.getfield 63, 3) := by decide +kernel
theorem d_Mo_count_229 : decode m_Mo_count.2.1 229 = .ok (.iload_n 1, 1) := by decide +kernel
theorem d_Mo_count_230 : decode m_Mo_count.2.1 230 = .ok (.iaload, 1) := by decide +kernel
theorem d_Mo_count_231 : decode m_Mo_count.2.1 231 = .ok (.ireturn, 1) := by decide +kernel
theorem t_Mo_count_0 {d : Nat} {st : List Value} {v0 : Value} {x1 : Int32} {o2 : Option Value} {o3 : Option Value} {o4 : Option Value} {o5 : Option Value} {o6 : Option Value} {w : qk_W} {nc ns : Nat} {Q : Option Value ⊕ Nat → qk_W → Nat → Nat → Prop} (hv0 : qk_isr v0 = true) (h8 : ((v0 :: st).map fun v => Value.category v).sum ≤ 8) (k : Ev d m_Mo_isChannel 0 [some (.int x1)] [] w nc ns (fun r w1 nc1 ns1 => match r with | .inl v => Ev (d + 1) m_Mo_count 5 [some v0, some (.int x1), o2, o3, o4, o5, o6] (v.toList ++ (v0 :: st)) w1 nc1 ns1 Q | .inr x => Q (.inr x) w1 nc1 ns1)) : Ev (d + 1) m_Mo_count 0 [some v0, some (.int x1), o2, o3, o4, o5, o6] st w nc ns Q := by
  refine ev_aload_n d_Mo_count_0 rfl hv0 ?_
  refine ev_iload_n d_Mo_count_1 rfl ?_
  exact ev_call (M' := m_Mo_isChannel) (As := [.int x1]) (st := (v0 :: st)) d_Mo_count_2 i_Mo_isChannel (fun h => absurd h (by decide +kernel)) cw_Mo_101 rfl rfl trivial rfl (Nat.le_of_ble_eq_true rfl) h8 k
theorem t_Mo_count_5 {d : Nat} {st : List Value} {o0 : Option Value} {o1 : Option Value} {o2 : Option Value} {o3 : Option Value} {o4 : Option Value} {o5 : Option Value} {o6 : Option Value} {y0 : Int32} {w : qk_W} {nc ns : Nat} {Q : Option Value ⊕ Nat → qk_W → Nat → Nat → Prop}   (kt : ¬ y0 = 0 → Ev d m_Mo_count 12 [o0, o1, o2, o3, o4, o5, o6] st w nc ns Q) (kf : y0 = 0 → Ev d m_Mo_count 8 [o0, o1, o2, o3, o4, o5, o6] st w nc ns Q) : Ev d m_Mo_count 5 [o0, o1, o2, o3, o4, o5, o6] (.int y0 :: st) w nc ns Q := by
  exact ev_if_ne 12 d_Mo_count_5 (by decide) kt kf
theorem t_Mo_count_8 {d : Nat} {st : List Value} {o0 : Option Value} {o1 : Option Value} {o2 : Option Value} {o3 : Option Value} {o4 : Option Value} {o5 : Option Value} {o6 : Option Value} {b0 : Nat} {fs2 : List Value} {w : qk_W} {nc ns : Nat} {Q : Option Value ⊕ Nat → qk_W → Nat → Nat → Prop}  (hw1 : wo w b0 11 fs2) (hk : 0 < fs2.length) (k : Ev d m_Mo_count 30 [o0, o1, o2, o3, o4, o5, o6] st (qk_set w b0 (.inr (11, fs2.set 0 (.int 1)))) nc ns Q) : Ev d m_Mo_count 8 [o0, o1, o2, o3, o4, o5, o6] (.ref b0 :: st) w nc ns Q := by
  refine ev_iconst 1 d_Mo_count_8 (by decide) ?_
  refine ev_goto 27 d_Mo_count_9 (by decide) ?_
  exact ev_putf d_Mo_count_27 fl_Mo_69 rfl hw1.1 hw1.2 hk (qk_fitI _) k
theorem t_Mo_count_12 {d : Nat} {st : List Value} {o0 : Option Value} {o1 : Option Value} {x2 : Int32} {o3 : Option Value} {o4 : Option Value} {o5 : Option Value} {o6 : Option Value} {w : qk_W} {nc ns : Nat} {Q : Option Value ⊕ Nat → qk_W → Nat → Nat → Prop}   (kt : x2 < 0 → Ev d m_Mo_count 22 [o0, o1, some (.int x2), o3, o4, o5, o6] st w nc ns Q) (kf : ¬ (x2 < 0) → Ev d m_Mo_count 16 [o0, o1, some (.int x2), o3, o4, o5, o6] st w nc ns Q) : Ev d m_Mo_count 12 [o0, o1, some (.int x2), o3, o4, o5, o6] st w nc ns Q := by
  refine ev_iload_n d_Mo_count_12 rfl ?_
  exact ev_if_lt 22 d_Mo_count_13 (by decide) kt kf
theorem t_Mo_count_16 {d : Nat} {st : List Value} {o0 : Option Value} {o1 : Option Value} {x2 : Int32} {o3 : Option Value} {o4 : Option Value} {o5 : Option Value} {o6 : Option Value} {w : qk_W} {nc ns : Nat} {Q : Option Value ⊕ Nat → qk_W → Nat → Nat → Prop}   (kt : x2 ≤ (6 : Int32) → Ev d m_Mo_count 26 [o0, o1, some (.int x2), o3, o4, o5, o6] st w nc ns Q) (kf : ¬ (x2 ≤ (6 : Int32)) → Ev d m_Mo_count 22 [o0, o1, some (.int x2), o3, o4, o5, o6] st w nc ns Q) : Ev d m_Mo_count 16 [o0, o1, some (.int x2), o3, o4, o5, o6] st w nc ns Q := by
  refine ev_iload_n d_Mo_count_16 rfl ?_
  refine ev_bipush 6 d_Mo_count_17 (by decide) ?_
  exact ev_icmp_le 26 d_Mo_count_19 (by decide) kt kf
theorem t_Mo_count_22 {d : Nat} {st : List Value} {o0 : Option Value} {o1 : Option Value} {o2 : Option Value} {o3 : Option Value} {o4 : Option Value} {o5 : Option Value} {o6 : Option Value} {b0 : Nat} {fs2 : List Value} {w : qk_W} {nc ns : Nat} {Q : Option Value ⊕ Nat → qk_W → Nat → Nat → Prop}  (hw1 : wo w b0 11 fs2) (hk : 0 < fs2.length) (k : Ev d m_Mo_count 30 [o0, o1, o2, o3, o4, o5, o6] st (qk_set w b0 (.inr (11, fs2.set 0 (.int 2)))) nc ns Q) : Ev d m_Mo_count 22 [o0, o1, o2, o3, o4, o5, o6] (.ref b0 :: st) w nc ns Q := by
  refine ev_iconst 2 d_Mo_count_22 (by decide) ?_
  refine ev_goto 27 d_Mo_count_23 (by decide) ?_
  exact ev_putf d_Mo_count_27 fl_Mo_69 rfl hw1.1 hw1.2 hk (qk_fitI _) k
theorem t_Mo_count_26 {d : Nat} {st : List Value} {o0 : Option Value} {o1 : Option Value} {o2 : Option Value} {o3 : Option Value} {o4 : Option Value} {o5 : Option Value} {o6 : Option Value} {b0 : Nat} {fs2 : List Value} {w : qk_W} {nc ns : Nat} {Q : Option Value ⊕ Nat → qk_W → Nat → Nat → Prop}  (hw1 : wo w b0 11 fs2) (hk : 0 < fs2.length) (k : Ev d m_Mo_count 30 [o0, o1, o2, o3, o4, o5, o6] st (qk_set w b0 (.inr (11, fs2.set 0 (.int 0)))) nc ns Q) : Ev d m_Mo_count 26 [o0, o1, o2, o3, o4, o5, o6] (.ref b0 :: st) w nc ns Q := by
  refine ev_iconst 0 d_Mo_count_26 (by decide) ?_
  exact ev_putf d_Mo_count_27 fl_Mo_69 rfl hw1.1 hw1.2 hk (qk_fitI _) k
theorem t_Mo_count_30 {d : Nat} {st : List Value} {a0 : Nat} {o1 : Option Value} {o2 : Option Value} {o3 : Option Value} {o4 : Option Value} {o5 : Option Value} {o6 : Option Value} {fs2 : List Value} {n4 : Int32} {w : qk_W} {nc ns : Nat} {Q : Option Value ⊕ Nat → qk_W → Nat → Nat → Prop}  (hw1 : wo w a0 11 fs2) (hf3 : fs2[0]? = some (.int n4)) (kt : n4 ≤ 0 → Ev d m_Mo_count 39 [some (.ref a0), o1, o2, o3, o4, o5, o6] st w nc ns Q) (kf : ¬ (n4 ≤ 0) → Ev d m_Mo_count 37 [some (.ref a0), o1, o2, o3, o4, o5, o6] st w nc ns Q) : Ev d m_Mo_count 30 [some (.ref a0), o1, o2, o3, o4, o5, o6] st w nc ns Q := by
  refine ev_aload_n d_Mo_count_30 rfl rfl ?_
  refine ev_getf d_Mo_count_31 fl_Mo_69 hw1.1 hw1.2 hf3 ?_
  exact ev_if_le 39 d_Mo_count_34 (by decide) kt kf
theorem t_Mo_count_37 {d : Nat} {o0 : Option Value} {o1 : Option Value} {o2 : Option Value} {o3 : Option Value} {o4 : Option Value} {o5 : Option Value} {o6 : Option Value} {w : qk_W} {nc ns : Nat} {Q : Option Value ⊕ Nat → qk_W → Nat → Nat → Prop}   (hq : Q (.inl (some (.int 0))) w nc ns) : Ev d m_Mo_count 37 [o0, o1, o2, o3, o4, o5, o6] [] w nc ns Q := by
  refine ev_iconst 0 d_Mo_count_37 (by decide) ?_
  exact ev_iret d_Mo_count_38 rfl rfl hq
theorem t_Mo_count_39 {d : Nat} {st : List Value} {a0 : Nat} {x1 : Int32} {o2 : Option Value} {o3 : Option Value} {o4 : Option Value} {o5 : Option Value} {o6 : Option Value} {fsb : List Value} {w : qk_W} {nc ns : Nat} {Q : Option Value ⊕ Nat → qk_W → Nat → Nat → Prop}  (hc1 : qk_c2 [some (.ref a0), some (.int x1), o2, o3, o4, o5, o6] 3 = true) (hb : wo w a0 11 fsb) (h8 : (st.map fun v => Value.category v).sum ≤ 8) (k : Ev d m_Mo_ringFirst 0 [some (.ref a0), some (.int x1), none, none, none] [] w nc ns (fun r w1 nc1 ns1 => match r with | .inl v => Ev (d + 1) m_Mo_count 46 [some (.ref a0), some (.int x1), o2, some (.int 0), o4, o5, o6] (v.toList ++ st) w1 nc1 ns1 Q | .inr x => Q (.inr x) w1 nc1 ns1)) : Ev (d + 1) m_Mo_count 39 [some (.ref a0), some (.int x1), o2, o3, o4, o5, o6] st w nc ns Q := by
  refine ev_iconst 0 d_Mo_count_39 (by decide) ?_
  refine ev_istore_n d_Mo_count_40 (by decide) hc1 ?_
  refine ev_aload_n d_Mo_count_41 rfl rfl ?_
  refine ev_iload_n d_Mo_count_42 rfl ?_
  exact ev_call (M' := m_Mo_ringFirst) (As := [.ref a0, .int x1]) (st := st) d_Mo_count_43 i_Mo_ringFirst (fun h => absurd h (by decide +kernel)) cw_Mo_91 rfl rfl ⟨hb.1, 11, _, _, hb.2, rfl, rfl⟩ rfl (Nat.le_of_ble_eq_true rfl) h8 k
theorem t_Mo_count_46 {d : Nat} {st : List Value} {o0 : Option Value} {o1 : Option Value} {o2 : Option Value} {o3 : Option Value} {o4 : Option Value} {o5 : Option Value} {o6 : Option Value} {y0 : Int32} {w : qk_W} {nc ns : Nat} {Q : Option Value ⊕ Nat → qk_W → Nat → Nat → Prop}  (hc1 : qk_c2 [o0, o1, o2, o3, o4, o5, o6] 4 = true) (k : Ev d m_Mo_count 48 [o0, o1, o2, o3, some (.int y0), o5, o6] st w nc ns Q) : Ev d m_Mo_count 46 [o0, o1, o2, o3, o4, o5, o6] (.int y0 :: st) w nc ns Q := by
  refine ev_istore d_Mo_count_46 (by decide) hc1 ?_
  exact k
theorem t_Mo_count_48 {d : Nat} {st : List Value} {a0 : Nat} {o1 : Option Value} {o2 : Option Value} {o3 : Option Value} {x4 : Int32} {o5 : Option Value} {o6 : Option Value} {fs2 : List Value} {n4 : Int32} {w : qk_W} {nc ns : Nat} {Q : Option Value ⊕ Nat → qk_W → Nat → Nat → Prop}  (hw1 : wo w a0 11 fs2) (hf3 : fs2[11]? = some (.int n4)) (kt : n4 ≤ x4 → Ev d m_Mo_count 82 [some (.ref a0), o1, o2, o3, some (.int x4), o5, o6] st w nc ns Q) (kf : ¬ (n4 ≤ x4) → Ev d m_Mo_count 57 [some (.ref a0), o1, o2, o3, some (.int x4), o5, o6] st w nc ns Q) : Ev d m_Mo_count 48 [some (.ref a0), o1, o2, o3, some (.int x4), o5, o6] st w nc ns Q := by
  refine ev_iload d_Mo_count_48 rfl ?_
  refine ev_aload_n d_Mo_count_50 rfl rfl ?_
  refine ev_getf d_Mo_count_51 fl_Mo_88 hw1.1 hw1.2 hf3 ?_
  exact ev_icmp_ge 82 d_Mo_count_54 (by decide) kt kf
theorem t_Mo_count_57 {d : Nat} {st : List Value} {a0 : Nat} {x1 : Int32} {o2 : Option Value} {x3 : Int32} {x4 : Int32} {o5 : Option Value} {o6 : Option Value} {fs2 : List Value} {c4 : Nat} {n6 : Nat} {f7 : Nat → Int32} {w : qk_W} {nc ns : Nat} {Q : Option Value ⊕ Nat → qk_W → Nat → Nat → Prop}  (hw1 : wo w a0 11 fs2) (hf3 : fs2[6]? = some (.ref c4)) (ha5 : wi w c4 n6 f7) (hi8 : vp_in x4 n6) (kt : ¬ (f7 x4.toNatClampNeg) = x1 → Ev d m_Mo_count 73 [some (.ref a0), some (.int x1), o2, some (.int x3), some (.int x4), o5, o6] (.int x3 :: st) w nc ns Q) (kf : (f7 x4.toNatClampNeg) = x1 → Ev d m_Mo_count 69 [some (.ref a0), some (.int x1), o2, some (.int x3), some (.int x4), o5, o6] (.int x3 :: st) w nc ns Q) : Ev d m_Mo_count 57 [some (.ref a0), some (.int x1), o2, some (.int x3), some (.int x4), o5, o6] st w nc ns Q := by
  refine ev_iload_n d_Mo_count_57 rfl ?_
  refine ev_aload_n d_Mo_count_58 rfl rfl ?_
  refine ev_getf d_Mo_count_59 fl_Mo_27 hw1.1 hw1.2 hf3 ?_
  refine ev_iload d_Mo_count_62 rfl ?_
  refine ev_iald d_Mo_count_64 ha5 hi8 ?_
  refine ev_iload_n d_Mo_count_65 rfl ?_
  exact ev_icmp_ne 73 d_Mo_count_66 (by decide) kt kf
theorem t_Mo_count_69 {d : Nat} {st : List Value} {o0 : Option Value} {o1 : Option Value} {o2 : Option Value} {o3 : Option Value} {x4 : Int32} {o5 : Option Value} {o6 : Option Value} {y0 : Int32} {w : qk_W} {nc ns : Nat} {Q : Option Value ⊕ Nat → qk_W → Nat → Nat → Prop}  (hc1 : qk_c2 [o0, o1, o2, o3, some (.int x4), o5, o6] 3 = true) (k : Ev d m_Mo_count 48 [o0, o1, o2, some (.int (y0 + 1)), some (.int (x4 + 1)), o5, o6] st w nc ns Q) : Ev d m_Mo_count 69 [o0, o1, o2, o3, some (.int x4), o5, o6] (.int y0 :: st) w nc ns Q := by
  refine ev_iconst 1 d_Mo_count_69 (by decide) ?_
  refine ev_goto 74 d_Mo_count_70 (by decide) ?_
  refine ev_iadd d_Mo_count_74 ?_
  refine ev_istore_n d_Mo_count_75 (by decide) hc1 ?_
  refine ev_iinc 1 d_Mo_count_76 (by decide) rfl (by decide) rfl ?_
  refine ev_goto 48 d_Mo_count_79 (by decide) ?_
  exact k
theorem t_Mo_count_73 {d : Nat} {st : List Value} {o0 : Option Value} {o1 : Option Value} {o2 : Option Value} {o3 : Option Value} {x4 : Int32} {o5 : Option Value} {o6 : Option Value} {y0 : Int32} {w : qk_W} {nc ns : Nat} {Q : Option Value ⊕ Nat → qk_W → Nat → Nat → Prop}  (hc1 : qk_c2 [o0, o1, o2, o3, some (.int x4), o5, o6] 3 = true) (k : Ev d m_Mo_count 48 [o0, o1, o2, some (.int (y0 + 0)), some (.int (x4 + 1)), o5, o6] st w nc ns Q) : Ev d m_Mo_count 73 [o0, o1, o2, o3, some (.int x4), o5, o6] (.int y0 :: st) w nc ns Q := by
  refine ev_iconst 0 d_Mo_count_73 (by decide) ?_
  refine ev_iadd d_Mo_count_74 ?_
  refine ev_istore_n d_Mo_count_75 (by decide) hc1 ?_
  refine ev_iinc 1 d_Mo_count_76 (by decide) rfl (by decide) rfl ?_
  refine ev_goto 48 d_Mo_count_79 (by decide) ?_
  exact k
theorem t_Mo_count_82 {d : Nat} {st : List Value} {o0 : Option Value} {o1 : Option Value} {o2 : Option Value} {o3 : Option Value} {o4 : Option Value} {o5 : Option Value} {o6 : Option Value} {w : qk_W} {nc ns : Nat} {Q : Option Value ⊕ Nat → qk_W → Nat → Nat → Prop}  (hc1 : qk_c2 [o0, o1, o2, o3, o4, o5, o6] 4 = true) (k : Ev d m_Mo_count 91 [o0, o1, o2, o3, some (.int 0), some (.int 0), some (.int 0)] st w nc ns Q) : Ev d m_Mo_count 82 [o0, o1, o2, o3, o4, o5, o6] st w nc ns Q := by
  refine ev_iconst 0 d_Mo_count_82 (by decide) ?_
  refine ev_istore d_Mo_count_83 (by decide) hc1 ?_
  refine ev_iconst 0 d_Mo_count_85 (by decide) ?_
  refine ev_istore d_Mo_count_86 (by decide) rfl ?_
  refine ev_iconst 0 d_Mo_count_88 (by decide) ?_
  refine ev_istore d_Mo_count_89 (by decide) rfl ?_
  exact k
theorem t_Mo_count_91 {d : Nat} {st : List Value} {o0 : Option Value} {o1 : Option Value} {o2 : Option Value} {o3 : Option Value} {o4 : Option Value} {o5 : Option Value} {x6 : Int32} {w : qk_W} {nc ns : Nat} {Q : Option Value ⊕ Nat → qk_W → Nat → Nat → Prop}   (kt : (32768 : Int32) ≤ x6 → Ev d m_Mo_count 149 [o0, o1, o2, o3, o4, o5, some (.int x6)] st w nc ns Q) (kf : ¬ ((32768 : Int32) ≤ x6) → Ev d m_Mo_count 98 [o0, o1, o2, o3, o4, o5, some (.int x6)] st w nc ns Q) : Ev d m_Mo_count 91 [o0, o1, o2, o3, o4, o5, some (.int x6)] st w nc ns Q := by
  refine ev_iload d_Mo_count_91 rfl ?_
  refine ev_ldc 32768 d_Mo_count_93 lc_Mo_46 ?_
  exact ev_icmp_ge 149 d_Mo_count_95 (by decide) kt kf
theorem t_Mo_count_98 {d : Nat} {st : List Value} {a0 : Nat} {x1 : Int32} {o2 : Option Value} {o3 : Option Value} {x4 : Int32} {o5 : Option Value} {x6 : Int32} {fs2 : List Value} {c4 : Nat} {n6 : Nat} {f7 : Nat → Int32} {w : qk_W} {nc ns : Nat} {Q : Option Value ⊕ Nat → qk_W → Nat → Nat → Prop}  (hw1 : wo w a0 11 fs2) (hf3 : fs2[12]? = some (.ref c4)) (ha5 : wz w c4 n6 f7) (hi8 : vp_in ((x1 * 32768) + x6) n6) (kt : (f7 ((x1 * 32768) + x6).toNatClampNeg) = 0 → Ev d m_Mo_count 119 [some (.ref a0), some (.int x1), o2, o3, some (.int x4), o5, some (.int x6)] (.int x4 :: st) w nc ns Q) (kf : ¬ ((f7 ((x1 * 32768) + x6).toNatClampNeg) = 0) → Ev d m_Mo_count 115 [some (.ref a0), some (.int x1), o2, o3, some (.int x4), o5, some (.int x6)] (.int x4 :: st) w nc ns Q) : Ev d m_Mo_count 98 [some (.ref a0), some (.int x1), o2, o3, some (.int x4), o5, some (.int x6)] st w nc ns Q := by
  refine ev_iload d_Mo_count_98 rfl ?_
  refine ev_aload_n d_Mo_count_100 rfl rfl ?_
  refine ev_getf d_Mo_count_101 fl_Mo_43 hw1.1 hw1.2 hf3 ?_
  refine ev_iload_n d_Mo_count_104 rfl ?_
  refine ev_ldc 32768 d_Mo_count_105 lc_Mo_46 ?_
  refine ev_imul d_Mo_count_107 ?_
  refine ev_iload d_Mo_count_108 rfl ?_
  refine ev_iadd d_Mo_count_110 ?_
  refine ev_zald d_Mo_count_111 ha5.1 ha5.2 hi8 ?_
  exact ev_if_eq 119 d_Mo_count_112 (by decide) kt kf
theorem t_Mo_count_115 {d : Nat} {st : List Value} {a0 : Nat} {x1 : Int32} {o2 : Option Value} {o3 : Option Value} {o4 : Option Value} {x5 : Int32} {x6 : Int32} {y0 : Int32} {fsb : List Value} {w : qk_W} {nc ns : Nat} {Q : Option Value ⊕ Nat → qk_W → Nat → Nat → Prop}  (hc1 : qk_c2 [some (.ref a0), some (.int x1), o2, o3, o4, some (.int x5), some (.int x6)] 4 = true) (hb : wo w a0 11 fsb) (h8 : ((.int x5 :: st).map fun v => Value.category v).sum ≤ 8) (k : Ev d m_Mo_isHeard 0 [some (.ref a0), some (.int x1), some (.int x6)] [] w nc ns (fun r w1 nc1 ns1 => match r with | .inl v => Ev (d + 1) m_Mo_count 132 [some (.ref a0), some (.int x1), o2, o3, some (.int (y0 + 1)), some (.int x5), some (.int x6)] (v.toList ++ (.int x5 :: st)) w1 nc1 ns1 Q | .inr x => Q (.inr x) w1 nc1 ns1)) : Ev (d + 1) m_Mo_count 115 [some (.ref a0), some (.int x1), o2, o3, o4, some (.int x5), some (.int x6)] (.int y0 :: st) w nc ns Q := by
  refine ev_iconst 1 d_Mo_count_115 (by decide) ?_
  refine ev_goto 120 d_Mo_count_116 (by decide) ?_
  refine ev_iadd d_Mo_count_120 ?_
  refine ev_istore d_Mo_count_121 (by decide) hc1 ?_
  refine ev_iload d_Mo_count_123 rfl ?_
  refine ev_aload_n d_Mo_count_125 rfl rfl ?_
  refine ev_iload_n d_Mo_count_126 rfl ?_
  refine ev_iload d_Mo_count_127 rfl ?_
  exact ev_call (M' := m_Mo_isHeard) (As := [.ref a0, .int x1, .int x6]) (st := (.int x5 :: st)) d_Mo_count_129 i_Mo_isHeard (fun h => absurd h (by decide +kernel)) cw_Mo_202 rfl rfl ⟨hb.1, 11, _, _, hb.2, rfl, rfl⟩ rfl (Nat.le_of_ble_eq_true rfl) h8 k
theorem t_Mo_count_119 {d : Nat} {st : List Value} {a0 : Nat} {x1 : Int32} {o2 : Option Value} {o3 : Option Value} {o4 : Option Value} {x5 : Int32} {x6 : Int32} {y0 : Int32} {fsb : List Value} {w : qk_W} {nc ns : Nat} {Q : Option Value ⊕ Nat → qk_W → Nat → Nat → Prop}  (hc1 : qk_c2 [some (.ref a0), some (.int x1), o2, o3, o4, some (.int x5), some (.int x6)] 4 = true) (hb : wo w a0 11 fsb) (h8 : ((.int x5 :: st).map fun v => Value.category v).sum ≤ 8) (k : Ev d m_Mo_isHeard 0 [some (.ref a0), some (.int x1), some (.int x6)] [] w nc ns (fun r w1 nc1 ns1 => match r with | .inl v => Ev (d + 1) m_Mo_count 132 [some (.ref a0), some (.int x1), o2, o3, some (.int (y0 + 0)), some (.int x5), some (.int x6)] (v.toList ++ (.int x5 :: st)) w1 nc1 ns1 Q | .inr x => Q (.inr x) w1 nc1 ns1)) : Ev (d + 1) m_Mo_count 119 [some (.ref a0), some (.int x1), o2, o3, o4, some (.int x5), some (.int x6)] (.int y0 :: st) w nc ns Q := by
  refine ev_iconst 0 d_Mo_count_119 (by decide) ?_
  refine ev_iadd d_Mo_count_120 ?_
  refine ev_istore d_Mo_count_121 (by decide) hc1 ?_
  refine ev_iload d_Mo_count_123 rfl ?_
  refine ev_aload_n d_Mo_count_125 rfl rfl ?_
  refine ev_iload_n d_Mo_count_126 rfl ?_
  refine ev_iload d_Mo_count_127 rfl ?_
  exact ev_call (M' := m_Mo_isHeard) (As := [.ref a0, .int x1, .int x6]) (st := (.int x5 :: st)) d_Mo_count_129 i_Mo_isHeard (fun h => absurd h (by decide +kernel)) cw_Mo_202 rfl rfl ⟨hb.1, 11, _, _, hb.2, rfl, rfl⟩ rfl (Nat.le_of_ble_eq_true rfl) h8 k
theorem t_Mo_count_132 {d : Nat} {st : List Value} {o0 : Option Value} {o1 : Option Value} {o2 : Option Value} {o3 : Option Value} {o4 : Option Value} {o5 : Option Value} {o6 : Option Value} {y0 : Int32} {w : qk_W} {nc ns : Nat} {Q : Option Value ⊕ Nat → qk_W → Nat → Nat → Prop}   (kt : y0 = 0 → Ev d m_Mo_count 139 [o0, o1, o2, o3, o4, o5, o6] st w nc ns Q) (kf : ¬ (y0 = 0) → Ev d m_Mo_count 135 [o0, o1, o2, o3, o4, o5, o6] st w nc ns Q) : Ev d m_Mo_count 132 [o0, o1, o2, o3, o4, o5, o6] (.int y0 :: st) w nc ns Q := by
  exact ev_if_eq 139 d_Mo_count_132 (by decide) kt kf
theorem t_Mo_count_135 {d : Nat} {st : List Value} {o0 : Option Value} {o1 : Option Value} {o2 : Option Value} {o3 : Option Value} {o4 : Option Value} {o5 : Option Value} {x6 : Int32} {y0 : Int32} {w : qk_W} {nc ns : Nat} {Q : Option Value ⊕ Nat → qk_W → Nat → Nat → Prop}  (hc1 : qk_c2 [o0, o1, o2, o3, o4, o5, some (.int x6)] 5 = true) (k : Ev d m_Mo_count 91 [o0, o1, o2, o3, o4, some (.int (y0 + 1)), some (.int (x6 + 1))] st w nc ns Q) : Ev d m_Mo_count 135 [o0, o1, o2, o3, o4, o5, some (.int x6)] (.int y0 :: st) w nc ns Q := by
  refine ev_iconst 1 d_Mo_count_135 (by decide) ?_
  refine ev_goto 140 d_Mo_count_136 (by decide) ?_
  refine ev_iadd d_Mo_count_140 ?_
  refine ev_istore d_Mo_count_141 (by decide) hc1 ?_
  refine ev_iinc 1 d_Mo_count_143 (by decide) rfl (by decide) rfl ?_
  refine ev_goto 91 d_Mo_count_146 (by decide) ?_
  exact k
theorem t_Mo_count_139 {d : Nat} {st : List Value} {o0 : Option Value} {o1 : Option Value} {o2 : Option Value} {o3 : Option Value} {o4 : Option Value} {o5 : Option Value} {x6 : Int32} {y0 : Int32} {w : qk_W} {nc ns : Nat} {Q : Option Value ⊕ Nat → qk_W → Nat → Nat → Prop}  (hc1 : qk_c2 [o0, o1, o2, o3, o4, o5, some (.int x6)] 5 = true) (k : Ev d m_Mo_count 91 [o0, o1, o2, o3, o4, some (.int (y0 + 0)), some (.int (x6 + 1))] st w nc ns Q) : Ev d m_Mo_count 139 [o0, o1, o2, o3, o4, o5, some (.int x6)] (.int y0 :: st) w nc ns Q := by
  refine ev_iconst 0 d_Mo_count_139 (by decide) ?_
  refine ev_iadd d_Mo_count_140 ?_
  refine ev_istore d_Mo_count_141 (by decide) hc1 ?_
  refine ev_iinc 1 d_Mo_count_143 (by decide) rfl (by decide) rfl ?_
  refine ev_goto 91 d_Mo_count_146 (by decide) ?_
  exact k
theorem t_Mo_count_149 {d : Nat} {st : List Value} {o0 : Option Value} {o1 : Option Value} {x2 : Int32} {o3 : Option Value} {o4 : Option Value} {o5 : Option Value} {o6 : Option Value} {w : qk_W} {nc ns : Nat} {Q : Option Value ⊕ Nat → qk_W → Nat → Nat → Prop}   (kt : ¬ x2 = 0 → Ev d m_Mo_count 162 [o0, o1, some (.int x2), o3, o4, o5, o6] st w nc ns Q) (kf : x2 = 0 → Ev d m_Mo_count 153 [o0, o1, some (.int x2), o3, o4, o5, o6] st w nc ns Q) : Ev d m_Mo_count 149 [o0, o1, some (.int x2), o3, o4, o5, o6] st w nc ns Q := by
  refine ev_iload_n d_Mo_count_149 rfl ?_
  exact ev_if_ne 162 d_Mo_count_150 (by decide) kt kf
theorem t_Mo_count_153 {d : Nat} {a0 : Nat} {x1 : Int32} {o2 : Option Value} {o3 : Option Value} {o4 : Option Value} {o5 : Option Value} {o6 : Option Value} {fs2 : List Value} {c4 : Nat} {n6 : Nat} {f7 : Nat → Int32} {w : qk_W} {nc ns : Nat} {Q : Option Value ⊕ Nat → qk_W → Nat → Nat → Prop}  (hw1 : wo w a0 11 fs2) (hf3 : fs2[2]? = some (.ref c4)) (ha5 : wi w c4 n6 f7) (hi8 : vp_in x1 n6) (hq : Q (.inl (some (.int (f7 x1.toNatClampNeg)))) w nc ns) : Ev d m_Mo_count 153 [some (.ref a0), some (.int x1), o2, o3, o4, o5, o6] [] w nc ns Q := by
  refine ev_aload_n d_Mo_count_153 rfl rfl ?_
  refine ev_getf d_Mo_count_154 fl_Mo_14 hw1.1 hw1.2 hf3 ?_
  refine ev_iload_n d_Mo_count_157 rfl ?_
  refine ev_iald d_Mo_count_158 ha5 hi8 ?_
  refine ev_goto 231 d_Mo_count_159 (by decide) ?_
  exact ev_iret d_Mo_count_231 rfl rfl hq
theorem t_Mo_count_162 {d : Nat} {st : List Value} {o0 : Option Value} {o1 : Option Value} {x2 : Int32} {o3 : Option Value} {o4 : Option Value} {o5 : Option Value} {o6 : Option Value} {w : qk_W} {nc ns : Nat} {Q : Option Value ⊕ Nat → qk_W → Nat → Nat → Prop}   (kt : ¬ x2 = (1 : Int32) → Ev d m_Mo_count 175 [o0, o1, some (.int x2), o3, o4, o5, o6] st w nc ns Q) (kf : x2 = (1 : Int32) → Ev d m_Mo_count 167 [o0, o1, some (.int x2), o3, o4, o5, o6] st w nc ns Q) : Ev d m_Mo_count 162 [o0, o1, some (.int x2), o3, o4, o5, o6] st w nc ns Q := by
  refine ev_iload_n d_Mo_count_162 rfl ?_
  refine ev_iconst 1 d_Mo_count_163 (by decide) ?_
  exact ev_icmp_ne 175 d_Mo_count_164 (by decide) kt kf
theorem t_Mo_count_167 {d : Nat} {st : List Value} {a0 : Nat} {x1 : Int32} {o2 : Option Value} {o3 : Option Value} {o4 : Option Value} {o5 : Option Value} {o6 : Option Value} {fsb : List Value} {w : qk_W} {nc ns : Nat} {Q : Option Value ⊕ Nat → qk_W → Nat → Nat → Prop}  (hb : wo w a0 11 fsb) (h8 : (st.map fun v => Value.category v).sum ≤ 8) (k : Ev d m_Mo_oldest 0 [some (.ref a0), some (.int x1), none] [] w nc ns (fun r w1 nc1 ns1 => match r with | .inl v => Ev (d + 1) m_Mo_count 172 [some (.ref a0), some (.int x1), o2, o3, o4, o5, o6] (v.toList ++ st) w1 nc1 ns1 Q | .inr x => Q (.inr x) w1 nc1 ns1)) : Ev (d + 1) m_Mo_count 167 [some (.ref a0), some (.int x1), o2, o3, o4, o5, o6] st w nc ns Q := by
  refine ev_aload_n d_Mo_count_167 rfl rfl ?_
  refine ev_iload_n d_Mo_count_168 rfl ?_
  exact ev_call (M' := m_Mo_oldest) (As := [.ref a0, .int x1]) (st := st) d_Mo_count_169 i_Mo_oldest (fun h => absurd h (by decide +kernel)) cw_Mo_129 rfl rfl ⟨hb.1, 11, _, _, hb.2, rfl, rfl⟩ rfl (Nat.le_of_ble_eq_true rfl) h8 k
theorem t_Mo_count_172 {d : Nat} {o0 : Option Value} {o1 : Option Value} {o2 : Option Value} {o3 : Option Value} {o4 : Option Value} {o5 : Option Value} {o6 : Option Value} {y0 : Int32} {w : qk_W} {nc ns : Nat} {Q : Option Value ⊕ Nat → qk_W → Nat → Nat → Prop}   (hq : Q (.inl (some (.int y0))) w nc ns) : Ev d m_Mo_count 172 [o0, o1, o2, o3, o4, o5, o6] [.int y0] w nc ns Q := by
  refine ev_goto 231 d_Mo_count_172 (by decide) ?_
  exact ev_iret d_Mo_count_231 rfl rfl hq
theorem t_Mo_count_175 {d : Nat} {st : List Value} {o0 : Option Value} {o1 : Option Value} {x2 : Int32} {o3 : Option Value} {o4 : Option Value} {o5 : Option Value} {o6 : Option Value} {w : qk_W} {nc ns : Nat} {Q : Option Value ⊕ Nat → qk_W → Nat → Nat → Prop}   (kt : ¬ x2 = (2 : Int32) → Ev d m_Mo_count 184 [o0, o1, some (.int x2), o3, o4, o5, o6] st w nc ns Q) (kf : x2 = (2 : Int32) → Ev d m_Mo_count 180 [o0, o1, some (.int x2), o3, o4, o5, o6] st w nc ns Q) : Ev d m_Mo_count 175 [o0, o1, some (.int x2), o3, o4, o5, o6] st w nc ns Q := by
  refine ev_iload_n d_Mo_count_175 rfl ?_
  refine ev_iconst 2 d_Mo_count_176 (by decide) ?_
  exact ev_icmp_ne 184 d_Mo_count_177 (by decide) kt kf
theorem t_Mo_count_180 {d : Nat} {o0 : Option Value} {o1 : Option Value} {o2 : Option Value} {x3 : Int32} {o4 : Option Value} {o5 : Option Value} {o6 : Option Value} {w : qk_W} {nc ns : Nat} {Q : Option Value ⊕ Nat → qk_W → Nat → Nat → Prop}   (hq : Q (.inl (some (.int x3))) w nc ns) : Ev d m_Mo_count 180 [o0, o1, o2, some (.int x3), o4, o5, o6] [] w nc ns Q := by
  refine ev_iload_n d_Mo_count_180 rfl ?_
  refine ev_goto 231 d_Mo_count_181 (by decide) ?_
  exact ev_iret d_Mo_count_231 rfl rfl hq
theorem t_Mo_count_184 {d : Nat} {st : List Value} {o0 : Option Value} {o1 : Option Value} {x2 : Int32} {o3 : Option Value} {o4 : Option Value} {o5 : Option Value} {o6 : Option Value} {w : qk_W} {nc ns : Nat} {Q : Option Value ⊕ Nat → qk_W → Nat → Nat → Prop}   (kt : ¬ x2 = (3 : Int32) → Ev d m_Mo_count 205 [o0, o1, some (.int x2), o3, o4, o5, o6] st w nc ns Q) (kf : x2 = (3 : Int32) → Ev d m_Mo_count 189 [o0, o1, some (.int x2), o3, o4, o5, o6] st w nc ns Q) : Ev d m_Mo_count 184 [o0, o1, some (.int x2), o3, o4, o5, o6] st w nc ns Q := by
  refine ev_iload_n d_Mo_count_184 rfl ?_
  refine ev_iconst 3 d_Mo_count_185 (by decide) ?_
  exact ev_icmp_ne 205 d_Mo_count_186 (by decide) kt kf
theorem t_Mo_count_189 {d : Nat} {a0 : Nat} {x1 : Int32} {o2 : Option Value} {o3 : Option Value} {o4 : Option Value} {o5 : Option Value} {o6 : Option Value} {fs2 : List Value} {c4 : Nat} {n6 : Nat} {f7 : Nat → Int32} {c12 : Nat} {n14 : Nat} {f15 : Nat → Int32} {w : qk_W} {nc ns : Nat} {Q : Option Value ⊕ Nat → qk_W → Nat → Nat → Prop}  (hw1 : wo w a0 11 fs2) (hf3 : fs2[2]? = some (.ref c4)) (ha5 : wi w c4 n6 f7) (hi8 : vp_in x1 n6) (hf11 : fs2[3]? = some (.ref c12)) (ha13 : wi w c12 n14 f15) (hi16 : vp_in x1 n14) (hq : Q (.inl (some (.int ((f7 x1.toNatClampNeg) - (f15 x1.toNatClampNeg))))) w nc ns) : Ev d m_Mo_count 189 [some (.ref a0), some (.int x1), o2, o3, o4, o5, o6] [] w nc ns Q := by
  refine ev_aload_n d_Mo_count_189 rfl rfl ?_
  refine ev_getf d_Mo_count_190 fl_Mo_14 hw1.1 hw1.2 hf3 ?_
  refine ev_iload_n d_Mo_count_193 rfl ?_
  refine ev_iald d_Mo_count_194 ha5 hi8 ?_
  refine ev_aload_n d_Mo_count_195 rfl rfl ?_
  refine ev_getf d_Mo_count_196 fl_Mo_17 hw1.1 hw1.2 hf11 ?_
  refine ev_iload_n d_Mo_count_199 rfl ?_
  refine ev_iald d_Mo_count_200 ha13 hi16 ?_
  refine ev_isub d_Mo_count_201 ?_
  refine ev_goto 231 d_Mo_count_202 (by decide) ?_
  exact ev_iret d_Mo_count_231 rfl rfl hq
theorem t_Mo_count_205 {d : Nat} {st : List Value} {o0 : Option Value} {o1 : Option Value} {x2 : Int32} {o3 : Option Value} {o4 : Option Value} {o5 : Option Value} {o6 : Option Value} {w : qk_W} {nc ns : Nat} {Q : Option Value ⊕ Nat → qk_W → Nat → Nat → Prop}   (kt : ¬ x2 = (4 : Int32) → Ev d m_Mo_count 215 [o0, o1, some (.int x2), o3, o4, o5, o6] st w nc ns Q) (kf : x2 = (4 : Int32) → Ev d m_Mo_count 210 [o0, o1, some (.int x2), o3, o4, o5, o6] st w nc ns Q) : Ev d m_Mo_count 205 [o0, o1, some (.int x2), o3, o4, o5, o6] st w nc ns Q := by
  refine ev_iload_n d_Mo_count_205 rfl ?_
  refine ev_iconst 4 d_Mo_count_206 (by decide) ?_
  exact ev_icmp_ne 215 d_Mo_count_207 (by decide) kt kf
theorem t_Mo_count_210 {d : Nat} {o0 : Option Value} {o1 : Option Value} {o2 : Option Value} {o3 : Option Value} {x4 : Int32} {o5 : Option Value} {o6 : Option Value} {w : qk_W} {nc ns : Nat} {Q : Option Value ⊕ Nat → qk_W → Nat → Nat → Prop}   (hq : Q (.inl (some (.int x4))) w nc ns) : Ev d m_Mo_count 210 [o0, o1, o2, o3, some (.int x4), o5, o6] [] w nc ns Q := by
  refine ev_iload d_Mo_count_210 rfl ?_
  refine ev_goto 231 d_Mo_count_212 (by decide) ?_
  exact ev_iret d_Mo_count_231 rfl rfl hq
theorem t_Mo_count_215 {d : Nat} {st : List Value} {o0 : Option Value} {o1 : Option Value} {x2 : Int32} {o3 : Option Value} {o4 : Option Value} {o5 : Option Value} {o6 : Option Value} {w : qk_W} {nc ns : Nat} {Q : Option Value ⊕ Nat → qk_W → Nat → Nat → Prop}   (kt : ¬ x2 = (5 : Int32) → Ev d m_Mo_count 225 [o0, o1, some (.int x2), o3, o4, o5, o6] st w nc ns Q) (kf : x2 = (5 : Int32) → Ev d m_Mo_count 220 [o0, o1, some (.int x2), o3, o4, o5, o6] st w nc ns Q) : Ev d m_Mo_count 215 [o0, o1, some (.int x2), o3, o4, o5, o6] st w nc ns Q := by
  refine ev_iload_n d_Mo_count_215 rfl ?_
  refine ev_iconst 5 d_Mo_count_216 (by decide) ?_
  exact ev_icmp_ne 225 d_Mo_count_217 (by decide) kt kf
theorem t_Mo_count_220 {d : Nat} {o0 : Option Value} {o1 : Option Value} {o2 : Option Value} {o3 : Option Value} {o4 : Option Value} {x5 : Int32} {o6 : Option Value} {w : qk_W} {nc ns : Nat} {Q : Option Value ⊕ Nat → qk_W → Nat → Nat → Prop}   (hq : Q (.inl (some (.int x5))) w nc ns) : Ev d m_Mo_count 220 [o0, o1, o2, o3, o4, some (.int x5), o6] [] w nc ns Q := by
  refine ev_iload d_Mo_count_220 rfl ?_
  refine ev_goto 231 d_Mo_count_222 (by decide) ?_
  exact ev_iret d_Mo_count_231 rfl rfl hq
theorem t_Mo_count_225 {d : Nat} {a0 : Nat} {x1 : Int32} {o2 : Option Value} {o3 : Option Value} {o4 : Option Value} {o5 : Option Value} {o6 : Option Value} {fs2 : List Value} {c4 : Nat} {n6 : Nat} {f7 : Nat → Int32} {w : qk_W} {nc ns : Nat} {Q : Option Value ⊕ Nat → qk_W → Nat → Nat → Prop}  (hw1 : wo w a0 11 fs2) (hf3 : fs2[20]? = some (.ref c4)) (ha5 : wi w c4 n6 f7) (hi8 : vp_in x1 n6) (hq : Q (.inl (some (.int (f7 x1.toNatClampNeg)))) w nc ns) : Ev d m_Mo_count 225 [some (.ref a0), some (.int x1), o2, o3, o4, o5, o6] [] w nc ns Q := by
  refine ev_aload_n d_Mo_count_225 rfl rfl ?_
  refine ev_getf d_Mo_count_226 fl_Mo_63 hw1.1 hw1.2 hf3 ?_
  refine ev_iload_n d_Mo_count_229 rfl ?_
  refine ev_iald d_Mo_count_230 ha5 hi8 ?_
  exact ev_iret d_Mo_count_231 rfl rfl hq
/-! Mo_total -/
theorem d_Mo_total_0 : decode m_Mo_total.2.1 0 = .ok (.aload_n 0, 1) := by decide +kernel
theorem d_Mo_total_1 : decode m_Mo_total.2.1 1 = .ok (.iload_n 1, 1) := by decide +kernel
theorem d_Mo_total_2 : decode m_Mo_total.2.1 2 = .ok (.ifCond .lt 8, 3) := by decide +kernel
theorem d_Mo_total_5 : decode m_Mo_total.2.1 5 = .ok (.iload_n 1, 1) := by decide +kernel
theorem d_Mo_total_6 : decode m_Mo_total.2.1 6 = .ok (.iconst 4, 1) := by decide +kernel
theorem d_Mo_total_7 : decode m_Mo_total.2.1 7 = .ok (.if_icmp .le 7, 3) := by decide +kernel
theorem d_Mo_total_10 : decode m_Mo_total.2.1 10 = .ok (.iconst 1, 1) := by decide +kernel
theorem d_Mo_total_11 : decode m_Mo_total.2.1 11 = .ok (.goto 4, 3) := by decide +kernel
theorem d_Mo_total_14 : decode m_Mo_total.2.1 14 = .ok (.iconst 0, 1) := by decide +kernel
theorem d_Mo_total_15 : decode m_Mo_total.2.1 15 = .ok (.putfield 69, 3) := by decide +kernel
theorem d_Mo_total_18 : decode m_Mo_total.2.1 18 = .ok (.aload_n 0, 1) := by decide +kernel
theorem d_Mo_total_19 : decode m_Mo_total.2.1 19 = .ok (.getfield 69, 3) := by decide +kernel
theorem d_Mo_total_22 : decode m_Mo_total.2.1 22 = .ok (.ifCond .le 5, 3) := by decide +kernel
theorem d_Mo_total_25 : decode m_Mo_total.2.1 25 = .ok (.iconst 0, 1) := by decide +kernel
theorem d_Mo_total_26 : decode m_Mo_total.2.1 26 = .ok (.ireturn, 1) := by decide +kernel
theorem d_Mo_total_27 : decode m_Mo_total.2.1 27 = .ok (.iconst 0, 1) := by decide +kernel
theorem d_Mo_total_28 : decode m_Mo_total.2.1 28 = .ok (.istore_n 2, 1) := by decide +kernel
theorem d_Mo_total_29 : decode m_Mo_total.2.1 29 = .ok (.iconst 0, 1) := by decide +kernel
theorem d_Mo_total_30 : decode m_Mo_total.2.1 30 = .ok (.istore_n 3, 1) := by decide +kernel
theorem d_Mo_total_31 : decode m_Mo_total.2.1 31 = .ok (.iload_n 3, 1) := by decide +kernel
theorem d_Mo_total_32 : decode m_Mo_total.2.1 32 = .ok (.aload_n 0, 1) := by decide +kernel
theorem d_Mo_total_33 : decode m_Mo_total.2.1 33 = .ok (.getfield 88, 3) := by decide +kernel
theorem d_Mo_total_36 : decode m_Mo_total.2.1 36 = .ok (.if_icmp .ge 26, 3) := by decide +kernel
theorem d_Mo_total_39 : decode m_Mo_total.2.1 39 = .ok (.iload_n 2, 1) := by decide +kernel
theorem d_Mo_total_40 : decode m_Mo_total.2.1 40 = .ok (.aload_n 0, 1) := by decide +kernel
theorem d_Mo_total_41 : decode m_Mo_total.2.1 41 = .ok (.getfield 39, 3) := by decide +kernel
theorem d_Mo_total_44 : decode m_Mo_total.2.1 44 = .ok (.iload_n 3, 1) := by decide +kernel
theorem d_Mo_total_45 : decode m_Mo_total.2.1 45 = .ok (.baload, 1) := by decide +kernel
theorem d_Mo_total_46 : decode m_Mo_total.2.1 46 = .ok (.ifCond .eq 7, 3) := by decide +kernel
theorem d_Mo_total_49 : decode m_Mo_total.2.1 49 = .ok (.iconst 1, 1) := by decide +kernel
theorem d_Mo_total_50 : decode m_Mo_total.2.1 50 = .ok (.goto 4, 3) := by decide +kernel
theorem d_Mo_total_53 : decode m_Mo_total.2.1 53 = .ok (.iconst 0, 1) := by decide +kernel
theorem d_Mo_total_54 : decode m_Mo_total.2.1 54 = .ok (.iadd, 1) := by decide +kernel
theorem d_Mo_total_55 : decode m_Mo_total.2.1 55 = .ok (.istore_n 2, 1) := by decide +kernel
theorem d_Mo_total_56 : decode m_Mo_total.2.1 56 = .ok (.iinc 3 1, 3) := by decide +kernel
theorem d_Mo_total_59 : decode m_Mo_total.2.1 59 = .ok (.goto (-28), 3) := by decide +kernel
theorem d_Mo_total_62 : decode m_Mo_total.2.1 62 = .ok (.iload_n 1, 1) := by decide +kernel
theorem d_Mo_total_63 : decode m_Mo_total.2.1 63 = .ok (.ifCond .ne 7, 3) := by decide +kernel
theorem d_Mo_total_66 : decode m_Mo_total.2.1 66 = .ok (.iload_n 2, 1) := by decide +kernel
theorem d_Mo_total_67 : decode m_Mo_total.2.1 67 = .ok (.goto 43, 3) := by decide +kernel
theorem d_Mo_total_70 : decode m_Mo_total.2.1 70 = .ok (.iload_n 1, 1) := by decide +kernel
theorem d_Mo_total_71 : decode m_Mo_total.2.1 71 = .ok (.iconst 1, 1) := by decide +kernel
theorem d_Mo_total_72 : decode m_Mo_total.2.1 72 = .ok (.if_icmp .ne 10, 3) := by decide +kernel
theorem d_Mo_total_75 : decode m_Mo_total.2.1 75 = .ok (.aload_n 0, 1) := by decide +kernel
theorem d_Mo_total_76 : decode m_Mo_total.2.1 76 = .ok (.getfield 109, 3) := by decide +kernel
theorem d_Mo_total_79 : decode m_Mo_total.2.1 79 = .ok (.goto 31, 3) := by decide +kernel
theorem d_Mo_total_82 : decode m_Mo_total.2.1 82 = .ok (.iload_n 1, 1) := by decide +kernel
theorem d_Mo_total_83 : decode m_Mo_total.2.1 83 = .ok (.iconst 2, 1) := by decide +kernel
theorem d_Mo_total_84 : decode m_Mo_total.2.1 84 = .ok (.if_icmp .ne 10, 3) := by decide +kernel
theorem d_Mo_total_87 : decode m_Mo_total.2.1 87 = .ok (.aload_n 0, 1) := by decide +kernel
theorem d_Mo_total_88 : decode m_Mo_total.2.1 88 = .ok (.getfield 196, 3) := by decide +kernel
theorem d_Mo_total_91 : decode m_Mo_total.2.1 91 = .ok (.goto 19, 3) := by decide +kernel
theorem d_Mo_total_94 : decode m_Mo_total.2.1 94 = .ok (.iload_n 1, 1) := by decide +kernel
theorem d_Mo_total_95 : decode m_Mo_total.2.1 95 = .ok (.iconst 3, 1) := by decide +kernel
theorem d_Mo_total_96 : decode m_Mo_total.2.1 96 = .ok (.if_icmp .ne 10, 3) := by decide +kernel
theorem d_Mo_total_99 : decode m_Mo_total.2.1 99 = .ok (.aload_n 0, 1) := by decide +kernel
theorem d_Mo_total_100 : decode m_Mo_total.2.1 100 = .ok (.getfield 199, 3) := by decide +kernel
theorem d_Mo_total_103 : decode m_Mo_total.2.1 103 = .ok (.goto 7, 3) := by decide +kernel
theorem d_Mo_total_106 : decode m_Mo_total.2.1 106 = .ok (.aload_n 0, 1) := by decide +kernel
theorem d_Mo_total_107 : decode m_Mo_total.2.1 107 = .ok (.getfield 168, 3) := by decide +kernel
theorem d_Mo_total_110 : decode m_Mo_total.2.1 110 = .ok (.ireturn, 1) := by decide +kernel
theorem t_Mo_total_0 {d : Nat} {st : List Value} {v0 : Value} {x1 : Int32} {o2 : Option Value} {o3 : Option Value} {w : qk_W} {nc ns : Nat} {Q : Option Value ⊕ Nat → qk_W → Nat → Nat → Prop} (hv0 : qk_isr v0 = true)  (kt : x1 < 0 → Ev d m_Mo_total 10 [some v0, some (.int x1), o2, o3] (v0 :: st) w nc ns Q) (kf : ¬ (x1 < 0) → Ev d m_Mo_total 5 [some v0, some (.int x1), o2, o3] (v0 :: st) w nc ns Q) : Ev d m_Mo_total 0 [some v0, some (.int x1), o2, o3] st w nc ns Q := by
  refine ev_aload_n d_Mo_total_0 rfl hv0 ?_
  refine ev_iload_n d_Mo_total_1 rfl ?_
  exact ev_if_lt 10 d_Mo_total_2 (by decide) kt kf
theorem t_Mo_total_5 {d : Nat} {st : List Value} {o0 : Option Value} {x1 : Int32} {o2 : Option Value} {o3 : Option Value} {w : qk_W} {nc ns : Nat} {Q : Option Value ⊕ Nat → qk_W → Nat → Nat → Prop}   (kt : x1 ≤ (4 : Int32) → Ev d m_Mo_total 14 [o0, some (.int x1), o2, o3] st w nc ns Q) (kf : ¬ (x1 ≤ (4 : Int32)) → Ev d m_Mo_total 10 [o0, some (.int x1), o2, o3] st w nc ns Q) : Ev d m_Mo_total 5 [o0, some (.int x1), o2, o3] st w nc ns Q := by
  refine ev_iload_n d_Mo_total_5 rfl ?_
  refine ev_iconst 4 d_Mo_total_6 (by decide) ?_
  exact ev_icmp_le 14 d_Mo_total_7 (by decide) kt kf
theorem t_Mo_total_10 {d : Nat} {st : List Value} {o0 : Option Value} {o1 : Option Value} {o2 : Option Value} {o3 : Option Value} {b0 : Nat} {fs2 : List Value} {w : qk_W} {nc ns : Nat} {Q : Option Value ⊕ Nat → qk_W → Nat → Nat → Prop}  (hw1 : wo w b0 11 fs2) (hk : 0 < fs2.length) (k : Ev d m_Mo_total 18 [o0, o1, o2, o3] st (qk_set w b0 (.inr (11, fs2.set 0 (.int 1)))) nc ns Q) : Ev d m_Mo_total 10 [o0, o1, o2, o3] (.ref b0 :: st) w nc ns Q := by
  refine ev_iconst 1 d_Mo_total_10 (by decide) ?_
  refine ev_goto 15 d_Mo_total_11 (by decide) ?_
  exact ev_putf d_Mo_total_15 fl_Mo_69 rfl hw1.1 hw1.2 hk (qk_fitI _) k
theorem t_Mo_total_14 {d : Nat} {st : List Value} {o0 : Option Value} {o1 : Option Value} {o2 : Option Value} {o3 : Option Value} {b0 : Nat} {fs2 : List Value} {w : qk_W} {nc ns : Nat} {Q : Option Value ⊕ Nat → qk_W → Nat → Nat → Prop}  (hw1 : wo w b0 11 fs2) (hk : 0 < fs2.length) (k : Ev d m_Mo_total 18 [o0, o1, o2, o3] st (qk_set w b0 (.inr (11, fs2.set 0 (.int 0)))) nc ns Q) : Ev d m_Mo_total 14 [o0, o1, o2, o3] (.ref b0 :: st) w nc ns Q := by
  refine ev_iconst 0 d_Mo_total_14 (by decide) ?_
  exact ev_putf d_Mo_total_15 fl_Mo_69 rfl hw1.1 hw1.2 hk (qk_fitI _) k
theorem t_Mo_total_18 {d : Nat} {st : List Value} {a0 : Nat} {o1 : Option Value} {o2 : Option Value} {o3 : Option Value} {fs2 : List Value} {n4 : Int32} {w : qk_W} {nc ns : Nat} {Q : Option Value ⊕ Nat → qk_W → Nat → Nat → Prop}  (hw1 : wo w a0 11 fs2) (hf3 : fs2[0]? = some (.int n4)) (kt : n4 ≤ 0 → Ev d m_Mo_total 27 [some (.ref a0), o1, o2, o3] st w nc ns Q) (kf : ¬ (n4 ≤ 0) → Ev d m_Mo_total 25 [some (.ref a0), o1, o2, o3] st w nc ns Q) : Ev d m_Mo_total 18 [some (.ref a0), o1, o2, o3] st w nc ns Q := by
  refine ev_aload_n d_Mo_total_18 rfl rfl ?_
  refine ev_getf d_Mo_total_19 fl_Mo_69 hw1.1 hw1.2 hf3 ?_
  exact ev_if_le 27 d_Mo_total_22 (by decide) kt kf
theorem t_Mo_total_25 {d : Nat} {o0 : Option Value} {o1 : Option Value} {o2 : Option Value} {o3 : Option Value} {w : qk_W} {nc ns : Nat} {Q : Option Value ⊕ Nat → qk_W → Nat → Nat → Prop}   (hq : Q (.inl (some (.int 0))) w nc ns) : Ev d m_Mo_total 25 [o0, o1, o2, o3] [] w nc ns Q := by
  refine ev_iconst 0 d_Mo_total_25 (by decide) ?_
  exact ev_iret d_Mo_total_26 rfl rfl hq
theorem t_Mo_total_27 {d : Nat} {st : List Value} {o0 : Option Value} {o1 : Option Value} {o2 : Option Value} {o3 : Option Value} {w : qk_W} {nc ns : Nat} {Q : Option Value ⊕ Nat → qk_W → Nat → Nat → Prop}  (hc1 : qk_c2 [o0, o1, o2, o3] 2 = true) (k : Ev d m_Mo_total 31 [o0, o1, some (.int 0), some (.int 0)] st w nc ns Q) : Ev d m_Mo_total 27 [o0, o1, o2, o3] st w nc ns Q := by
  refine ev_iconst 0 d_Mo_total_27 (by decide) ?_
  refine ev_istore_n d_Mo_total_28 (by decide) hc1 ?_
  refine ev_iconst 0 d_Mo_total_29 (by decide) ?_
  refine ev_istore_n d_Mo_total_30 (by decide) rfl ?_
  exact k
theorem t_Mo_total_31 {d : Nat} {st : List Value} {a0 : Nat} {o1 : Option Value} {o2 : Option Value} {x3 : Int32} {fs2 : List Value} {n4 : Int32} {w : qk_W} {nc ns : Nat} {Q : Option Value ⊕ Nat → qk_W → Nat → Nat → Prop}  (hw1 : wo w a0 11 fs2) (hf3 : fs2[11]? = some (.int n4)) (kt : n4 ≤ x3 → Ev d m_Mo_total 62 [some (.ref a0), o1, o2, some (.int x3)] st w nc ns Q) (kf : ¬ (n4 ≤ x3) → Ev d m_Mo_total 39 [some (.ref a0), o1, o2, some (.int x3)] st w nc ns Q) : Ev d m_Mo_total 31 [some (.ref a0), o1, o2, some (.int x3)] st w nc ns Q := by
  refine ev_iload_n d_Mo_total_31 rfl ?_
  refine ev_aload_n d_Mo_total_32 rfl rfl ?_
  refine ev_getf d_Mo_total_33 fl_Mo_88 hw1.1 hw1.2 hf3 ?_
  exact ev_icmp_ge 62 d_Mo_total_36 (by decide) kt kf
theorem t_Mo_total_39 {d : Nat} {st : List Value} {a0 : Nat} {o1 : Option Value} {x2 : Int32} {x3 : Int32} {fs2 : List Value} {c4 : Nat} {n6 : Nat} {f7 : Nat → Int32} {w : qk_W} {nc ns : Nat} {Q : Option Value ⊕ Nat → qk_W → Nat → Nat → Prop}  (hw1 : wo w a0 11 fs2) (hf3 : fs2[10]? = some (.ref c4)) (ha5 : wz w c4 n6 f7) (hi8 : vp_in x3 n6) (kt : (f7 x3.toNatClampNeg) = 0 → Ev d m_Mo_total 53 [some (.ref a0), o1, some (.int x2), some (.int x3)] (.int x2 :: st) w nc ns Q) (kf : ¬ ((f7 x3.toNatClampNeg) = 0) → Ev d m_Mo_total 49 [some (.ref a0), o1, some (.int x2), some (.int x3)] (.int x2 :: st) w nc ns Q) : Ev d m_Mo_total 39 [some (.ref a0), o1, some (.int x2), some (.int x3)] st w nc ns Q := by
  refine ev_iload_n d_Mo_total_39 rfl ?_
  refine ev_aload_n d_Mo_total_40 rfl rfl ?_
  refine ev_getf d_Mo_total_41 fl_Mo_39 hw1.1 hw1.2 hf3 ?_
  refine ev_iload_n d_Mo_total_44 rfl ?_
  refine ev_zald d_Mo_total_45 ha5.1 ha5.2 hi8 ?_
  exact ev_if_eq 53 d_Mo_total_46 (by decide) kt kf
theorem t_Mo_total_49 {d : Nat} {st : List Value} {o0 : Option Value} {o1 : Option Value} {o2 : Option Value} {x3 : Int32} {y0 : Int32} {w : qk_W} {nc ns : Nat} {Q : Option Value ⊕ Nat → qk_W → Nat → Nat → Prop}  (hc1 : qk_c2 [o0, o1, o2, some (.int x3)] 2 = true) (k : Ev d m_Mo_total 31 [o0, o1, some (.int (y0 + 1)), some (.int (x3 + 1))] st w nc ns Q) : Ev d m_Mo_total 49 [o0, o1, o2, some (.int x3)] (.int y0 :: st) w nc ns Q := by
  refine ev_iconst 1 d_Mo_total_49 (by decide) ?_
  refine ev_goto 54 d_Mo_total_50 (by decide) ?_
  refine ev_iadd d_Mo_total_54 ?_
  refine ev_istore_n d_Mo_total_55 (by decide) hc1 ?_
  refine ev_iinc 1 d_Mo_total_56 (by decide) rfl (by decide) rfl ?_
  refine ev_goto 31 d_Mo_total_59 (by decide) ?_
  exact k
theorem t_Mo_total_53 {d : Nat} {st : List Value} {o0 : Option Value} {o1 : Option Value} {o2 : Option Value} {x3 : Int32} {y0 : Int32} {w : qk_W} {nc ns : Nat} {Q : Option Value ⊕ Nat → qk_W → Nat → Nat → Prop}  (hc1 : qk_c2 [o0, o1, o2, some (.int x3)] 2 = true) (k : Ev d m_Mo_total 31 [o0, o1, some (.int (y0 + 0)), some (.int (x3 + 1))] st w nc ns Q) : Ev d m_Mo_total 53 [o0, o1, o2, some (.int x3)] (.int y0 :: st) w nc ns Q := by
  refine ev_iconst 0 d_Mo_total_53 (by decide) ?_
  refine ev_iadd d_Mo_total_54 ?_
  refine ev_istore_n d_Mo_total_55 (by decide) hc1 ?_
  refine ev_iinc 1 d_Mo_total_56 (by decide) rfl (by decide) rfl ?_
  refine ev_goto 31 d_Mo_total_59 (by decide) ?_
  exact k
theorem t_Mo_total_62 {d : Nat} {st : List Value} {o0 : Option Value} {x1 : Int32} {o2 : Option Value} {o3 : Option Value} {w : qk_W} {nc ns : Nat} {Q : Option Value ⊕ Nat → qk_W → Nat → Nat → Prop}   (kt : ¬ x1 = 0 → Ev d m_Mo_total 70 [o0, some (.int x1), o2, o3] st w nc ns Q) (kf : x1 = 0 → Ev d m_Mo_total 66 [o0, some (.int x1), o2, o3] st w nc ns Q) : Ev d m_Mo_total 62 [o0, some (.int x1), o2, o3] st w nc ns Q := by
  refine ev_iload_n d_Mo_total_62 rfl ?_
  exact ev_if_ne 70 d_Mo_total_63 (by decide) kt kf
theorem t_Mo_total_66 {d : Nat} {o0 : Option Value} {o1 : Option Value} {x2 : Int32} {o3 : Option Value} {w : qk_W} {nc ns : Nat} {Q : Option Value ⊕ Nat → qk_W → Nat → Nat → Prop}   (hq : Q (.inl (some (.int x2))) w nc ns) : Ev d m_Mo_total 66 [o0, o1, some (.int x2), o3] [] w nc ns Q := by
  refine ev_iload_n d_Mo_total_66 rfl ?_
  refine ev_goto 110 d_Mo_total_67 (by decide) ?_
  exact ev_iret d_Mo_total_110 rfl rfl hq
theorem t_Mo_total_70 {d : Nat} {st : List Value} {o0 : Option Value} {x1 : Int32} {o2 : Option Value} {o3 : Option Value} {w : qk_W} {nc ns : Nat} {Q : Option Value ⊕ Nat → qk_W → Nat → Nat → Prop}   (kt : ¬ x1 = (1 : Int32) → Ev d m_Mo_total 82 [o0, some (.int x1), o2, o3] st w nc ns Q) (kf : x1 = (1 : Int32) → Ev d m_Mo_total 75 [o0, some (.int x1), o2, o3] st w nc ns Q) : Ev d m_Mo_total 70 [o0, some (.int x1), o2, o3] st w nc ns Q := by
  refine ev_iload_n d_Mo_total_70 rfl ?_
  refine ev_iconst 1 d_Mo_total_71 (by decide) ?_
  exact ev_icmp_ne 82 d_Mo_total_72 (by decide) kt kf
theorem t_Mo_total_75 {d : Nat} {a0 : Nat} {o1 : Option Value} {o2 : Option Value} {o3 : Option Value} {fs2 : List Value} {n4 : Int32} {w : qk_W} {nc ns : Nat} {Q : Option Value ⊕ Nat → qk_W → Nat → Nat → Prop}  (hw1 : wo w a0 11 fs2) (hf3 : fs2[17]? = some (.int n4)) (hq : Q (.inl (some (.int n4))) w nc ns) : Ev d m_Mo_total 75 [some (.ref a0), o1, o2, o3] [] w nc ns Q := by
  refine ev_aload_n d_Mo_total_75 rfl rfl ?_
  refine ev_getf d_Mo_total_76 fl_Mo_109 hw1.1 hw1.2 hf3 ?_
  refine ev_goto 110 d_Mo_total_79 (by decide) ?_
  exact ev_iret d_Mo_total_110 rfl rfl hq
theorem t_Mo_total_82 {d : Nat} {st : List Value} {o0 : Option Value} {x1 : Int32} {o2 : Option Value} {o3 : Option Value} {w : qk_W} {nc ns : Nat} {Q : Option Value ⊕ Nat → qk_W → Nat → Nat → Prop}   (kt : ¬ x1 = (2 : Int32) → Ev d m_Mo_total 94 [o0, some (.int x1), o2, o3] st w nc ns Q) (kf : x1 = (2 : Int32) → Ev d m_Mo_total 87 [o0, some (.int x1), o2, o3] st w nc ns Q) : Ev d m_Mo_total 82 [o0, some (.int x1), o2, o3] st w nc ns Q := by
  refine ev_iload_n d_Mo_total_82 rfl ?_
  refine ev_iconst 2 d_Mo_total_83 (by decide) ?_
  exact ev_icmp_ne 94 d_Mo_total_84 (by decide) kt kf
theorem t_Mo_total_87 {d : Nat} {a0 : Nat} {o1 : Option Value} {o2 : Option Value} {o3 : Option Value} {fs2 : List Value} {n4 : Int32} {w : qk_W} {nc ns : Nat} {Q : Option Value ⊕ Nat → qk_W → Nat → Nat → Prop}  (hw1 : wo w a0 11 fs2) (hf3 : fs2[21]? = some (.int n4)) (hq : Q (.inl (some (.int n4))) w nc ns) : Ev d m_Mo_total 87 [some (.ref a0), o1, o2, o3] [] w nc ns Q := by
  refine ev_aload_n d_Mo_total_87 rfl rfl ?_
  refine ev_getf d_Mo_total_88 fl_Mo_196 hw1.1 hw1.2 hf3 ?_
  refine ev_goto 110 d_Mo_total_91 (by decide) ?_
  exact ev_iret d_Mo_total_110 rfl rfl hq
theorem t_Mo_total_94 {d : Nat} {st : List Value} {o0 : Option Value} {x1 : Int32} {o2 : Option Value} {o3 : Option Value} {w : qk_W} {nc ns : Nat} {Q : Option Value ⊕ Nat → qk_W → Nat → Nat → Prop}   (kt : ¬ x1 = (3 : Int32) → Ev d m_Mo_total 106 [o0, some (.int x1), o2, o3] st w nc ns Q) (kf : x1 = (3 : Int32) → Ev d m_Mo_total 99 [o0, some (.int x1), o2, o3] st w nc ns Q) : Ev d m_Mo_total 94 [o0, some (.int x1), o2, o3] st w nc ns Q := by
  refine ev_iload_n d_Mo_total_94 rfl ?_
  refine ev_iconst 3 d_Mo_total_95 (by decide) ?_
  exact ev_icmp_ne 106 d_Mo_total_96 (by decide) kt kf
theorem t_Mo_total_99 {d : Nat} {a0 : Nat} {o1 : Option Value} {o2 : Option Value} {o3 : Option Value} {fs2 : List Value} {n4 : Int32} {w : qk_W} {nc ns : Nat} {Q : Option Value ⊕ Nat → qk_W → Nat → Nat → Prop}  (hw1 : wo w a0 11 fs2) (hf3 : fs2[22]? = some (.int n4)) (hq : Q (.inl (some (.int n4))) w nc ns) : Ev d m_Mo_total 99 [some (.ref a0), o1, o2, o3] [] w nc ns Q := by
  refine ev_aload_n d_Mo_total_99 rfl rfl ?_
  refine ev_getf d_Mo_total_100 fl_Mo_199 hw1.1 hw1.2 hf3 ?_
  refine ev_goto 110 d_Mo_total_103 (by decide) ?_
  exact ev_iret d_Mo_total_110 rfl rfl hq
theorem t_Mo_total_106 {d : Nat} {a0 : Nat} {o1 : Option Value} {o2 : Option Value} {o3 : Option Value} {fs2 : List Value} {n4 : Int32} {w : qk_W} {nc ns : Nat} {Q : Option Value ⊕ Nat → qk_W → Nat → Nat → Prop}  (hw1 : wo w a0 11 fs2) (hf3 : fs2[23]? = some (.int n4)) (hq : Q (.inl (some (.int n4))) w nc ns) : Ev d m_Mo_total 106 [some (.ref a0), o1, o2, o3] [] w nc ns Q := by
  refine ev_aload_n d_Mo_total_106 rfl rfl ?_
  refine ev_getf d_Mo_total_107 fl_Mo_168 hw1.1 hw1.2 hf3 ?_
  exact ev_iret d_Mo_total_110 rfl rfl hq
